section
-- ===== PART A: goes FIRST, ahead of the names: the tables' words, and 'selects' of the private methods out of them =====
/-- a private method of a class that the tables say can be made, by its rows of tables_1 -/
def lw_okq (q : MethodName × Nat) : Prop := (q.1.cls ≠ "java/lang/invoke/MethodHandle" ∧ q.1.cls ≠ "java/lang/invoke/VarHandle") ∧ Cond.instantiable q.1.cls q.2 ∈ tables_1 ∧ Cond.privateMethod q.1 ∈ tables_1 ∧ Cond.instanceMethod q.1 ∈ tables_1
theorem lw_p0 : lw_okq (⟨"PadeWorkbench", "fail", "(I)I"⟩, 11) := ⟨⟨by decide +kernel, by decide +kernel⟩, List.mem_of_getElem? (i := 17) (by decide +kernel), List.mem_of_getElem? (i := 258) (by decide +kernel), List.mem_of_getElem? (i := 259) (by decide +kernel)⟩
theorem lw_p1 : lw_okq (⟨"PadeWorkbench", "isElement", "(I)Z"⟩, 11) := ⟨⟨by decide +kernel, by decide +kernel⟩, List.mem_of_getElem? (i := 17) (by decide +kernel), List.mem_of_getElem? (i := 290) (by decide +kernel), List.mem_of_getElem? (i := 291) (by decide +kernel)⟩
theorem lw_p2 : lw_okq (⟨"PadeWorkbench", "store", "(I)I"⟩, 11) := ⟨⟨by decide +kernel, by decide +kernel⟩, List.mem_of_getElem? (i := 17) (by decide +kernel), List.mem_of_getElem? (i := 308) (by decide +kernel), List.mem_of_getElem? (i := 309) (by decide +kernel)⟩
theorem lw_p3 : lw_okq (⟨"PadeWorkbench", "composeIntoResult", "([I[I)V"⟩, 11) := ⟨⟨by decide +kernel, by decide +kernel⟩, List.mem_of_getElem? (i := 17) (by decide +kernel), List.mem_of_getElem? (i := 344) (by decide +kernel), List.mem_of_getElem? (i := 345) (by decide +kernel)⟩
theorem lw_p4 : lw_okq (⟨"PadeWorkbench$FractionText", "readPolynomial", "([I)Z"⟩, 6) := ⟨⟨by decide +kernel, by decide +kernel⟩, List.mem_of_getElem? (i := 79) (by decide +kernel), List.mem_of_getElem? (i := 378) (by decide +kernel), List.mem_of_getElem? (i := 379) (by decide +kernel)⟩
theorem lw_p5 : lw_okq (⟨"PadeWorkbench$FractionText", "took", "(I)Z"⟩, 6) := ⟨⟨by decide +kernel, by decide +kernel⟩, List.mem_of_getElem? (i := 79) (by decide +kernel), List.mem_of_getElem? (i := 382) (by decide +kernel), List.mem_of_getElem? (i := 383) (by decide +kernel)⟩
theorem lw_p6 : lw_okq (⟨"PadeWorkbench$FractionText", "peek", "()I"⟩, 6) := ⟨⟨by decide +kernel, by decide +kernel⟩, List.mem_of_getElem? (i := 79) (by decide +kernel), List.mem_of_getElem? (i := 386) (by decide +kernel), List.mem_of_getElem? (i := 387) (by decide +kernel)⟩
theorem lw_p7 : lw_okq (⟨"PadeWorkbench$FractionText", "here", "()I"⟩, 6) := ⟨⟨by decide +kernel, by decide +kernel⟩, List.mem_of_getElem? (i := 79) (by decide +kernel), List.mem_of_getElem? (i := 390) (by decide +kernel), List.mem_of_getElem? (i := 391) (by decide +kernel)⟩
theorem lw_p8 : lw_okq (⟨"PadeWorkbench$FractionText", "readTerm", "([IZ)Z"⟩, 6) := ⟨⟨by decide +kernel, by decide +kernel⟩, List.mem_of_getElem? (i := 79) (by decide +kernel), List.mem_of_getElem? (i := 394) (by decide +kernel), List.mem_of_getElem? (i := 395) (by decide +kernel)⟩
theorem lw_p9 : lw_okq (⟨"PadeWorkbench$FractionText", "readNumber", "()I"⟩, 6) := ⟨⟨by decide +kernel, by decide +kernel⟩, List.mem_of_getElem? (i := 79) (by decide +kernel), List.mem_of_getElem? (i := 401) (by decide +kernel), List.mem_of_getElem? (i := 402) (by decide +kernel)⟩
theorem lw_p10 : lw_okq (⟨"PadeWorkbench$FractionText", "readExponent", "()I"⟩, 6) := ⟨⟨by decide +kernel, by decide +kernel⟩, List.mem_of_getElem? (i := 79) (by decide +kernel), List.mem_of_getElem? (i := 405) (by decide +kernel), List.mem_of_getElem? (i := 406) (by decide +kernel)⟩
theorem lw_p11 : lw_okq (⟨"PadeWorkbench", "approximate", "(III)V"⟩, 11) := ⟨⟨by decide +kernel, by decide +kernel⟩, List.mem_of_getElem? (i := 17) (by decide +kernel), List.mem_of_getElem? (i := 417) (by decide +kernel), List.mem_of_getElem? (i := 418) (by decide +kernel)⟩
theorem lw_p12 : lw_okq (⟨"PadeWorkbench$Euclid", "startCofactors", "()V"⟩, 6) := ⟨⟨by decide +kernel, by decide +kernel⟩, List.mem_of_getElem? (i := 108) (by decide +kernel), List.mem_of_getElem? (i := 442) (by decide +kernel), List.mem_of_getElem? (i := 443) (by decide +kernel)⟩
theorem lw_p13 : lw_okq (⟨"PadeWorkbench$Euclid", "followWithCofactors", "()V"⟩, 6) := ⟨⟨by decide +kernel, by decide +kernel⟩, List.mem_of_getElem? (i := 108) (by decide +kernel), List.mem_of_getElem? (i := 464) (by decide +kernel), List.mem_of_getElem? (i := 465) (by decide +kernel)⟩
theorem lw_p14 : lw_okq (⟨"PadeWorkbench$Toeplitz", "fill", "([III)V"⟩, 1) := ⟨⟨by decide +kernel, by decide +kernel⟩, List.mem_of_getElem? (i := 172) (by decide +kernel), List.mem_of_getElem? (i := 555) (by decide +kernel), List.mem_of_getElem? (i := 556) (by decide +kernel)⟩
theorem lw_p15 : lw_okq (⟨"PadeWorkbench$Toeplitz", "pivotRow", "(II)I"⟩, 1) := ⟨⟨by decide +kernel, by decide +kernel⟩, List.mem_of_getElem? (i := 172) (by decide +kernel), List.mem_of_getElem? (i := 560) (by decide +kernel), List.mem_of_getElem? (i := 561) (by decide +kernel)⟩
def lw_privs_1 : List (MethodName × Nat) := [(⟨"PadeWorkbench", "fail", "(I)I"⟩, 11), (⟨"PadeWorkbench", "isElement", "(I)Z"⟩, 11), (⟨"PadeWorkbench", "store", "(I)I"⟩, 11), (⟨"PadeWorkbench", "composeIntoResult", "([I[I)V"⟩, 11), (⟨"PadeWorkbench$FractionText", "readPolynomial", "([I)Z"⟩, 6), (⟨"PadeWorkbench$FractionText", "took", "(I)Z"⟩, 6), (⟨"PadeWorkbench$FractionText", "peek", "()I"⟩, 6), (⟨"PadeWorkbench$FractionText", "here", "()I"⟩, 6), (⟨"PadeWorkbench$FractionText", "readTerm", "([IZ)Z"⟩, 6), (⟨"PadeWorkbench$FractionText", "readNumber", "()I"⟩, 6), (⟨"PadeWorkbench$FractionText", "readExponent", "()I"⟩, 6), (⟨"PadeWorkbench", "approximate", "(III)V"⟩, 11), (⟨"PadeWorkbench$Euclid", "startCofactors", "()V"⟩, 6), (⟨"PadeWorkbench$Euclid", "followWithCofactors", "()V"⟩, 6), (⟨"PadeWorkbench$Toeplitz", "fill", "([III)V"⟩, 1), (⟨"PadeWorkbench$Toeplitz", "pivotRow", "(II)I"⟩, 1)]
theorem lw_r1 : ∀ q ∈ lw_privs_1, lw_okq q := List.forall_mem_cons.mpr ⟨lw_p0, List.forall_mem_cons.mpr ⟨lw_p1, List.forall_mem_cons.mpr ⟨lw_p2, List.forall_mem_cons.mpr ⟨lw_p3, List.forall_mem_cons.mpr ⟨lw_p4, List.forall_mem_cons.mpr ⟨lw_p5, List.forall_mem_cons.mpr ⟨lw_p6, List.forall_mem_cons.mpr ⟨lw_p7, List.forall_mem_cons.mpr ⟨lw_p8, List.forall_mem_cons.mpr ⟨lw_p9, List.forall_mem_cons.mpr ⟨lw_p10, List.forall_mem_cons.mpr ⟨lw_p11, List.forall_mem_cons.mpr ⟨lw_p12, List.forall_mem_cons.mpr ⟨lw_p13, List.forall_mem_cons.mpr ⟨lw_p14, List.forall_mem_cons.mpr ⟨lw_p15, fun _ h => absurd h List.not_mem_nil⟩⟩⟩⟩⟩⟩⟩⟩⟩⟩⟩⟩⟩⟩⟩⟩
theorem lw_p16 : lw_okq (⟨"PadeWorkbench$Toeplitz", "swapRows", "(II)V"⟩, 1) := ⟨⟨by decide +kernel, by decide +kernel⟩, List.mem_of_getElem? (i := 172) (by decide +kernel), List.mem_of_getElem? (i := 564) (by decide +kernel), List.mem_of_getElem? (i := 565) (by decide +kernel)⟩
theorem lw_p17 : lw_okq (⟨"PadeWorkbench$Toeplitz", "clearBelow", "(III)V"⟩, 1) := ⟨⟨by decide +kernel, by decide +kernel⟩, List.mem_of_getElem? (i := 172) (by decide +kernel), List.mem_of_getElem? (i := 570) (by decide +kernel), List.mem_of_getElem? (i := 571) (by decide +kernel)⟩
theorem lw_p18 : lw_okq (⟨"PadeWorkbench$Scheme", "firstColumns", "([II)V"⟩, 2) := ⟨⟨by decide +kernel, by decide +kernel⟩, List.mem_of_getElem? (i := 183) (by decide +kernel), List.mem_of_getElem? (i := 587) (by decide +kernel), List.mem_of_getElem? (i := 588) (by decide +kernel)⟩
theorem lw_p19 : lw_okq (⟨"PadeWorkbench$Scheme", "nextE", "(I)V"⟩, 2) := ⟨⟨by decide +kernel, by decide +kernel⟩, List.mem_of_getElem? (i := 183) (by decide +kernel), List.mem_of_getElem? (i := 596) (by decide +kernel), List.mem_of_getElem? (i := 597) (by decide +kernel)⟩
theorem lw_p20 : lw_okq (⟨"PadeWorkbench$Scheme", "nextQ", "(I)V"⟩, 2) := ⟨⟨by decide +kernel, by decide +kernel⟩, List.mem_of_getElem? (i := 183) (by decide +kernel), List.mem_of_getElem? (i := 601) (by decide +kernel), List.mem_of_getElem? (i := 602) (by decide +kernel)⟩
theorem lw_p21 : lw_okq (⟨"PadeWorkbench$Register", "gapAt", "([III)I"⟩, 4) := ⟨⟨by decide +kernel, by decide +kernel⟩, List.mem_of_getElem? (i := 196) (by decide +kernel), List.mem_of_getElem? (i := 624) (by decide +kernel), List.mem_of_getElem? (i := 625) (by decide +kernel)⟩
theorem lw_p22 : lw_okq (⟨"PadeWorkbench$Register", "correct", "(III)V"⟩, 4) := ⟨⟨by decide +kernel, by decide +kernel⟩, List.mem_of_getElem? (i := 196) (by decide +kernel), List.mem_of_getElem? (i := 630) (by decide +kernel), List.mem_of_getElem? (i := 631) (by decide +kernel)⟩
theorem lw_p23 : lw_okq (⟨"PadeWorkbench$Register", "keepOlder", "()V"⟩, 4) := ⟨⟨by decide +kernel, by decide +kernel⟩, List.mem_of_getElem? (i := 196) (by decide +kernel), List.mem_of_getElem? (i := 635) (by decide +kernel), List.mem_of_getElem? (i := 636) (by decide +kernel)⟩
theorem lw_p24 : lw_okq (⟨"PadeWorkbench", "isInterpolant", "(I)Z"⟩, 11) := ⟨⟨by decide +kernel, by decide +kernel⟩, List.mem_of_getElem? (i := 17) (by decide +kernel), List.mem_of_getElem? (i := 664) (by decide +kernel), List.mem_of_getElem? (i := 665) (by decide +kernel)⟩
theorem lw_p25 : lw_okq (⟨"PadeWorkbench", "interpolate", "(I)V"⟩, 11) := ⟨⟨by decide +kernel, by decide +kernel⟩, List.mem_of_getElem? (i := 17) (by decide +kernel), List.mem_of_getElem? (i := 668) (by decide +kernel), List.mem_of_getElem? (i := 669) (by decide +kernel)⟩
theorem lw_p26 : lw_okq (⟨"PadeWorkbench", "missedPoints", "()I"⟩, 11) := ⟨⟨by decide +kernel, by decide +kernel⟩, List.mem_of_getElem? (i := 17) (by decide +kernel), List.mem_of_getElem? (i := 688) (by decide +kernel), List.mem_of_getElem? (i := 689) (by decide +kernel)⟩
theorem lw_p27 : lw_okq (⟨"PadeWorkbench", "mixSeries", "(JI)J"⟩, 11) := ⟨⟨by decide +kernel, by decide +kernel⟩, List.mem_of_getElem? (i := 17) (by decide +kernel), List.mem_of_getElem? (i := 718) (by decide +kernel), List.mem_of_getElem? (i := 719) (by decide +kernel)⟩
theorem lw_p28 : lw_okq (⟨"PadeWorkbench", "mixPoints", "(J)J"⟩, 11) := ⟨⟨by decide +kernel, by decide +kernel⟩, List.mem_of_getElem? (i := 17) (by decide +kernel), List.mem_of_getElem? (i := 722) (by decide +kernel), List.mem_of_getElem? (i := 723) (by decide +kernel)⟩
theorem lw_p29 : lw_okq (⟨"PadeWorkbenchModel", "fail", "(I)I"⟩, 20) := ⟨⟨by decide +kernel, by decide +kernel⟩, List.mem_of_getElem? (i := 726) (by decide +kernel), List.mem_of_getElem? (i := 803) (by decide +kernel), List.mem_of_getElem? (i := 804) (by decide +kernel)⟩
theorem lw_p30 : lw_okq (⟨"PadeWorkbenchModel", "save", "()V"⟩, 20) := ⟨⟨by decide +kernel, by decide +kernel⟩, List.mem_of_getElem? (i := 726) (by decide +kernel), List.mem_of_getElem? (i := 807) (by decide +kernel), List.mem_of_getElem? (i := 808) (by decide +kernel)⟩
theorem lw_p31 : lw_okq (⟨"PadeWorkbenchModel", "prime", "()I"⟩, 20) := ⟨⟨by decide +kernel, by decide +kernel⟩, List.mem_of_getElem? (i := 726) (by decide +kernel), List.mem_of_getElem? (i := 811) (by decide +kernel), List.mem_of_getElem? (i := 812) (by decide +kernel)⟩
def lw_privs_2 : List (MethodName × Nat) := [(⟨"PadeWorkbench$Toeplitz", "swapRows", "(II)V"⟩, 1), (⟨"PadeWorkbench$Toeplitz", "clearBelow", "(III)V"⟩, 1), (⟨"PadeWorkbench$Scheme", "firstColumns", "([II)V"⟩, 2), (⟨"PadeWorkbench$Scheme", "nextE", "(I)V"⟩, 2), (⟨"PadeWorkbench$Scheme", "nextQ", "(I)V"⟩, 2), (⟨"PadeWorkbench$Register", "gapAt", "([III)I"⟩, 4), (⟨"PadeWorkbench$Register", "correct", "(III)V"⟩, 4), (⟨"PadeWorkbench$Register", "keepOlder", "()V"⟩, 4), (⟨"PadeWorkbench", "isInterpolant", "(I)Z"⟩, 11), (⟨"PadeWorkbench", "interpolate", "(I)V"⟩, 11), (⟨"PadeWorkbench", "missedPoints", "()I"⟩, 11), (⟨"PadeWorkbench", "mixSeries", "(JI)J"⟩, 11), (⟨"PadeWorkbench", "mixPoints", "(J)J"⟩, 11), (⟨"PadeWorkbenchModel", "fail", "(I)I"⟩, 20), (⟨"PadeWorkbenchModel", "save", "()V"⟩, 20), (⟨"PadeWorkbenchModel", "prime", "()I"⟩, 20)]
theorem lw_r2 : ∀ q ∈ lw_privs_2, lw_okq q := List.forall_mem_cons.mpr ⟨lw_p16, List.forall_mem_cons.mpr ⟨lw_p17, List.forall_mem_cons.mpr ⟨lw_p18, List.forall_mem_cons.mpr ⟨lw_p19, List.forall_mem_cons.mpr ⟨lw_p20, List.forall_mem_cons.mpr ⟨lw_p21, List.forall_mem_cons.mpr ⟨lw_p22, List.forall_mem_cons.mpr ⟨lw_p23, List.forall_mem_cons.mpr ⟨lw_p24, List.forall_mem_cons.mpr ⟨lw_p25, List.forall_mem_cons.mpr ⟨lw_p26, List.forall_mem_cons.mpr ⟨lw_p27, List.forall_mem_cons.mpr ⟨lw_p28, List.forall_mem_cons.mpr ⟨lw_p29, List.forall_mem_cons.mpr ⟨lw_p30, List.forall_mem_cons.mpr ⟨lw_p31, fun _ h => absurd h List.not_mem_nil⟩⟩⟩⟩⟩⟩⟩⟩⟩⟩⟩⟩⟩⟩⟩⟩
theorem lw_p32 : lw_okq (⟨"PadeWorkbenchModel", "term", "(II)I"⟩, 20) := ⟨⟨by decide +kernel, by decide +kernel⟩, List.mem_of_getElem? (i := 726) (by decide +kernel), List.mem_of_getElem? (i := 822) (by decide +kernel), List.mem_of_getElem? (i := 823) (by decide +kernel)⟩
theorem lw_p33 : lw_okq (⟨"PadeWorkbenchModel", "mod", "(I)I"⟩, 20) := ⟨⟨by decide +kernel, by decide +kernel⟩, List.mem_of_getElem? (i := 726) (by decide +kernel), List.mem_of_getElem? (i := 834) (by decide +kernel), List.mem_of_getElem? (i := 835) (by decide +kernel)⟩
theorem lw_p34 : lw_okq (⟨"PadeWorkbenchModel", "store", "(I)I"⟩, 20) := ⟨⟨by decide +kernel, by decide +kernel⟩, List.mem_of_getElem? (i := 726) (by decide +kernel), List.mem_of_getElem? (i := 838) (by decide +kernel), List.mem_of_getElem? (i := 839) (by decide +kernel)⟩
theorem lw_p35 : lw_okq (⟨"PadeWorkbenchModel", "take", "(I[I)V"⟩, 20) := ⟨⟨by decide +kernel, by decide +kernel⟩, List.mem_of_getElem? (i := 726) (by decide +kernel), List.mem_of_getElem? (i := 846) (by decide +kernel), List.mem_of_getElem? (i := 847) (by decide +kernel)⟩
theorem lw_p36 : lw_okq (⟨"PadeWorkbenchModel", "makeProduct", "()V"⟩, 20) := ⟨⟨by decide +kernel, by decide +kernel⟩, List.mem_of_getElem? (i := 726) (by decide +kernel), List.mem_of_getElem? (i := 850) (by decide +kernel), List.mem_of_getElem? (i := 851) (by decide +kernel)⟩
theorem lw_p37 : lw_okq (⟨"PadeWorkbenchModel", "makeQuotient", "()V"⟩, 20) := ⟨⟨by decide +kernel, by decide +kernel⟩, List.mem_of_getElem? (i := 726) (by decide +kernel), List.mem_of_getElem? (i := 861) (by decide +kernel), List.mem_of_getElem? (i := 862) (by decide +kernel)⟩
theorem lw_p38 : lw_okq (⟨"PadeWorkbenchModel", "inverse", "(I)I"⟩, 20) := ⟨⟨by decide +kernel, by decide +kernel⟩, List.mem_of_getElem? (i := 726) (by decide +kernel), List.mem_of_getElem? (i := 865) (by decide +kernel), List.mem_of_getElem? (i := 866) (by decide +kernel)⟩
theorem lw_p39 : lw_okq (⟨"PadeWorkbenchModel", "readFraction", "()Z"⟩, 20) := ⟨⟨by decide +kernel, by decide +kernel⟩, List.mem_of_getElem? (i := 726) (by decide +kernel), List.mem_of_getElem? (i := 889) (by decide +kernel), List.mem_of_getElem? (i := 890) (by decide +kernel)⟩
theorem lw_p40 : lw_okq (⟨"PadeWorkbenchModel", "readPolynomial", "([I)Z"⟩, 20) := ⟨⟨by decide +kernel, by decide +kernel⟩, List.mem_of_getElem? (i := 726) (by decide +kernel), List.mem_of_getElem? (i := 893) (by decide +kernel), List.mem_of_getElem? (i := 894) (by decide +kernel)⟩
theorem lw_p41 : lw_okq (⟨"PadeWorkbenchModel", "skip", "()V"⟩, 20) := ⟨⟨by decide +kernel, by decide +kernel⟩, List.mem_of_getElem? (i := 726) (by decide +kernel), List.mem_of_getElem? (i := 897) (by decide +kernel), List.mem_of_getElem? (i := 898) (by decide +kernel)⟩
theorem lw_p42 : lw_okq (⟨"PadeWorkbenchModel", "here", "()I"⟩, 20) := ⟨⟨by decide +kernel, by decide +kernel⟩, List.mem_of_getElem? (i := 726) (by decide +kernel), List.mem_of_getElem? (i := 901) (by decide +kernel), List.mem_of_getElem? (i := 902) (by decide +kernel)⟩
theorem lw_p43 : lw_okq (⟨"PadeWorkbenchModel", "readTerm", "([II)Z"⟩, 20) := ⟨⟨by decide +kernel, by decide +kernel⟩, List.mem_of_getElem? (i := 726) (by decide +kernel), List.mem_of_getElem? (i := 905) (by decide +kernel), List.mem_of_getElem? (i := 906) (by decide +kernel)⟩
theorem lw_p44 : lw_okq (⟨"PadeWorkbenchModel", "isDigit", "()Z"⟩, 20) := ⟨⟨by decide +kernel, by decide +kernel⟩, List.mem_of_getElem? (i := 726) (by decide +kernel), List.mem_of_getElem? (i := 909) (by decide +kernel), List.mem_of_getElem? (i := 910) (by decide +kernel)⟩
theorem lw_p45 : lw_okq (⟨"PadeWorkbenchModel", "readExponent", "()I"⟩, 20) := ⟨⟨by decide +kernel, by decide +kernel⟩, List.mem_of_getElem? (i := 726) (by decide +kernel), List.mem_of_getElem? (i := 913) (by decide +kernel), List.mem_of_getElem? (i := 914) (by decide +kernel)⟩
theorem lw_p46 : lw_okq (⟨"PadeWorkbenchModel", "isPair", "(III)Z"⟩, 20) := ⟨⟨by decide +kernel, by decide +kernel⟩, List.mem_of_getElem? (i := 726) (by decide +kernel), List.mem_of_getElem? (i := 921) (by decide +kernel), List.mem_of_getElem? (i := 922) (by decide +kernel)⟩
theorem lw_p47 : lw_okq (⟨"PadeWorkbenchModel", "approximate", "(III)V"⟩, 20) := ⟨⟨by decide +kernel, by decide +kernel⟩, List.mem_of_getElem? (i := 726) (by decide +kernel), List.mem_of_getElem? (i := 925) (by decide +kernel), List.mem_of_getElem? (i := 926) (by decide +kernel)⟩
def lw_privs_3 : List (MethodName × Nat) := [(⟨"PadeWorkbenchModel", "term", "(II)I"⟩, 20), (⟨"PadeWorkbenchModel", "mod", "(I)I"⟩, 20), (⟨"PadeWorkbenchModel", "store", "(I)I"⟩, 20), (⟨"PadeWorkbenchModel", "take", "(I[I)V"⟩, 20), (⟨"PadeWorkbenchModel", "makeProduct", "()V"⟩, 20), (⟨"PadeWorkbenchModel", "makeQuotient", "()V"⟩, 20), (⟨"PadeWorkbenchModel", "inverse", "(I)I"⟩, 20), (⟨"PadeWorkbenchModel", "readFraction", "()Z"⟩, 20), (⟨"PadeWorkbenchModel", "readPolynomial", "([I)Z"⟩, 20), (⟨"PadeWorkbenchModel", "skip", "()V"⟩, 20), (⟨"PadeWorkbenchModel", "here", "()I"⟩, 20), (⟨"PadeWorkbenchModel", "readTerm", "([II)Z"⟩, 20), (⟨"PadeWorkbenchModel", "isDigit", "()Z"⟩, 20), (⟨"PadeWorkbenchModel", "readExponent", "()I"⟩, 20), (⟨"PadeWorkbenchModel", "isPair", "(III)Z"⟩, 20), (⟨"PadeWorkbenchModel", "approximate", "(III)V"⟩, 20)]
theorem lw_r3 : ∀ q ∈ lw_privs_3, lw_okq q := List.forall_mem_cons.mpr ⟨lw_p32, List.forall_mem_cons.mpr ⟨lw_p33, List.forall_mem_cons.mpr ⟨lw_p34, List.forall_mem_cons.mpr ⟨lw_p35, List.forall_mem_cons.mpr ⟨lw_p36, List.forall_mem_cons.mpr ⟨lw_p37, List.forall_mem_cons.mpr ⟨lw_p38, List.forall_mem_cons.mpr ⟨lw_p39, List.forall_mem_cons.mpr ⟨lw_p40, List.forall_mem_cons.mpr ⟨lw_p41, List.forall_mem_cons.mpr ⟨lw_p42, List.forall_mem_cons.mpr ⟨lw_p43, List.forall_mem_cons.mpr ⟨lw_p44, List.forall_mem_cons.mpr ⟨lw_p45, List.forall_mem_cons.mpr ⟨lw_p46, List.forall_mem_cons.mpr ⟨lw_p47, fun _ h => absurd h List.not_mem_nil⟩⟩⟩⟩⟩⟩⟩⟩⟩⟩⟩⟩⟩⟩⟩⟩
theorem lw_p48 : lw_okq (⟨"PadeWorkbenchModel", "findVector", "(II)V"⟩, 20) := ⟨⟨by decide +kernel, by decide +kernel⟩, List.mem_of_getElem? (i := 726) (by decide +kernel), List.mem_of_getElem? (i := 929) (by decide +kernel), List.mem_of_getElem? (i := 930) (by decide +kernel)⟩
theorem lw_p49 : lw_okq (⟨"PadeWorkbenchModel", "reduce", "(II)V"⟩, 20) := ⟨⟨by decide +kernel, by decide +kernel⟩, List.mem_of_getElem? (i := 726) (by decide +kernel), List.mem_of_getElem? (i := 933) (by decide +kernel), List.mem_of_getElem? (i := 934) (by decide +kernel)⟩
theorem lw_p50 : lw_okq (⟨"PadeWorkbenchModel", "rowWith", "(III)I"⟩, 20) := ⟨⟨by decide +kernel, by decide +kernel⟩, List.mem_of_getElem? (i := 726) (by decide +kernel), List.mem_of_getElem? (i := 937) (by decide +kernel), List.mem_of_getElem? (i := 938) (by decide +kernel)⟩
theorem lw_p51 : lw_okq (⟨"PadeWorkbenchModel", "exchange", "(II)V"⟩, 20) := ⟨⟨by decide +kernel, by decide +kernel⟩, List.mem_of_getElem? (i := 726) (by decide +kernel), List.mem_of_getElem? (i := 941) (by decide +kernel), List.mem_of_getElem? (i := 942) (by decide +kernel)⟩
theorem lw_p52 : lw_okq (⟨"PadeWorkbenchModel", "lessRow", "(III)V"⟩, 20) := ⟨⟨by decide +kernel, by decide +kernel⟩, List.mem_of_getElem? (i := 726) (by decide +kernel), List.mem_of_getElem? (i := 945) (by decide +kernel), List.mem_of_getElem? (i := 946) (by decide +kernel)⟩
theorem lw_p53 : lw_okq (⟨"PadeWorkbenchModel", "toLowest", "()V"⟩, 20) := ⟨⟨by decide +kernel, by decide +kernel⟩, List.mem_of_getElem? (i := 726) (by decide +kernel), List.mem_of_getElem? (i := 949) (by decide +kernel), List.mem_of_getElem? (i := 950) (by decide +kernel)⟩
theorem lw_p54 : lw_okq (⟨"PadeWorkbenchModel", "divide", "([I[I[I)V"⟩, 20) := ⟨⟨by decide +kernel, by decide +kernel⟩, List.mem_of_getElem? (i := 726) (by decide +kernel), List.mem_of_getElem? (i := 959) (by decide +kernel), List.mem_of_getElem? (i := 960) (by decide +kernel)⟩
theorem lw_p55 : lw_okq (⟨"PadeWorkbenchModel", "degreeOrNone", "([I)I"⟩, 20) := ⟨⟨by decide +kernel, by decide +kernel⟩, List.mem_of_getElem? (i := 726) (by decide +kernel), List.mem_of_getElem? (i := 963) (by decide +kernel), List.mem_of_getElem? (i := 964) (by decide +kernel)⟩
theorem lw_p56 : lw_okq (⟨"PadeWorkbenchModel", "orderOf", "(I)I"⟩, 20) := ⟨⟨by decide +kernel, by decide +kernel⟩, List.mem_of_getElem? (i := 726) (by decide +kernel), List.mem_of_getElem? (i := 983) (by decide +kernel), List.mem_of_getElem? (i := 984) (by decide +kernel)⟩
theorem lw_p57 : lw_okq (⟨"PadeWorkbenchModel", "sizeOf", "(I)I"⟩, 20) := ⟨⟨by decide +kernel, by decide +kernel⟩, List.mem_of_getElem? (i := 726) (by decide +kernel), List.mem_of_getElem? (i := 991) (by decide +kernel), List.mem_of_getElem? (i := 992) (by decide +kernel)⟩
theorem lw_p58 : lw_okq (⟨"PadeWorkbenchModel", "valueAt", "([II)I"⟩, 20) := ⟨⟨by decide +kernel, by decide +kernel⟩, List.mem_of_getElem? (i := 726) (by decide +kernel), List.mem_of_getElem? (i := 999) (by decide +kernel), List.mem_of_getElem? (i := 1000) (by decide +kernel)⟩
theorem lw_p59 : lw_okq (⟨"PadeWorkbenchModel", "normals", "(II)I"⟩, 20) := ⟨⟨by decide +kernel, by decide +kernel⟩, List.mem_of_getElem? (i := 726) (by decide +kernel), List.mem_of_getElem? (i := 1007) (by decide +kernel), List.mem_of_getElem? (i := 1008) (by decide +kernel)⟩
theorem lw_p60 : lw_okq (⟨"PadeWorkbenchModel", "findScheme", "(I)V"⟩, 20) := ⟨⟨by decide +kernel, by decide +kernel⟩, List.mem_of_getElem? (i := 726) (by decide +kernel), List.mem_of_getElem? (i := 1019) (by decide +kernel), List.mem_of_getElem? (i := 1020) (by decide +kernel)⟩
theorem lw_p61 : lw_okq (⟨"PadeWorkbenchModel", "isCut", "(II)Z"⟩, 20) := ⟨⟨by decide +kernel, by decide +kernel⟩, List.mem_of_getElem? (i := 726) (by decide +kernel), List.mem_of_getElem? (i := 1030) (by decide +kernel), List.mem_of_getElem? (i := 1031) (by decide +kernel)⟩
theorem lw_p62 : lw_okq (⟨"PadeWorkbenchModel", "findQuotients", "(III)I"⟩, 20) := ⟨⟨by decide +kernel, by decide +kernel⟩, List.mem_of_getElem? (i := 726) (by decide +kernel), List.mem_of_getElem? (i := 1034) (by decide +kernel), List.mem_of_getElem? (i := 1035) (by decide +kernel)⟩
theorem lw_p63 : lw_okq (⟨"PadeWorkbenchModel", "complexityOf", "(II)I"⟩, 20) := ⟨⟨by decide +kernel, by decide +kernel⟩, List.mem_of_getElem? (i := 726) (by decide +kernel), List.mem_of_getElem? (i := 1046) (by decide +kernel), List.mem_of_getElem? (i := 1047) (by decide +kernel)⟩
def lw_privs_4 : List (MethodName × Nat) := [(⟨"PadeWorkbenchModel", "findVector", "(II)V"⟩, 20), (⟨"PadeWorkbenchModel", "reduce", "(II)V"⟩, 20), (⟨"PadeWorkbenchModel", "rowWith", "(III)I"⟩, 20), (⟨"PadeWorkbenchModel", "exchange", "(II)V"⟩, 20), (⟨"PadeWorkbenchModel", "lessRow", "(III)V"⟩, 20), (⟨"PadeWorkbenchModel", "toLowest", "()V"⟩, 20), (⟨"PadeWorkbenchModel", "divide", "([I[I[I)V"⟩, 20), (⟨"PadeWorkbenchModel", "degreeOrNone", "([I)I"⟩, 20), (⟨"PadeWorkbenchModel", "orderOf", "(I)I"⟩, 20), (⟨"PadeWorkbenchModel", "sizeOf", "(I)I"⟩, 20), (⟨"PadeWorkbenchModel", "valueAt", "([II)I"⟩, 20), (⟨"PadeWorkbenchModel", "normals", "(II)I"⟩, 20), (⟨"PadeWorkbenchModel", "findScheme", "(I)V"⟩, 20), (⟨"PadeWorkbenchModel", "isCut", "(II)Z"⟩, 20), (⟨"PadeWorkbenchModel", "findQuotients", "(III)I"⟩, 20), (⟨"PadeWorkbenchModel", "complexityOf", "(II)I"⟩, 20)]
theorem lw_r4 : ∀ q ∈ lw_privs_4, lw_okq q := List.forall_mem_cons.mpr ⟨lw_p48, List.forall_mem_cons.mpr ⟨lw_p49, List.forall_mem_cons.mpr ⟨lw_p50, List.forall_mem_cons.mpr ⟨lw_p51, List.forall_mem_cons.mpr ⟨lw_p52, List.forall_mem_cons.mpr ⟨lw_p53, List.forall_mem_cons.mpr ⟨lw_p54, List.forall_mem_cons.mpr ⟨lw_p55, List.forall_mem_cons.mpr ⟨lw_p56, List.forall_mem_cons.mpr ⟨lw_p57, List.forall_mem_cons.mpr ⟨lw_p58, List.forall_mem_cons.mpr ⟨lw_p59, List.forall_mem_cons.mpr ⟨lw_p60, List.forall_mem_cons.mpr ⟨lw_p61, List.forall_mem_cons.mpr ⟨lw_p62, List.forall_mem_cons.mpr ⟨lw_p63, fun _ h => absurd h List.not_mem_nil⟩⟩⟩⟩⟩⟩⟩⟩⟩⟩⟩⟩⟩⟩⟩⟩
theorem lw_p64 : lw_okq (⟨"PadeWorkbenchModel", "isRecurrent", "(III)Z"⟩, 20) := ⟨⟨by decide +kernel, by decide +kernel⟩, List.mem_of_getElem? (i := 726) (by decide +kernel), List.mem_of_getElem? (i := 1050) (by decide +kernel), List.mem_of_getElem? (i := 1051) (by decide +kernel)⟩
theorem lw_p65 : lw_okq (⟨"PadeWorkbenchModel", "points", "()I"⟩, 20) := ⟨⟨by decide +kernel, by decide +kernel⟩, List.mem_of_getElem? (i := 726) (by decide +kernel), List.mem_of_getElem? (i := 1062) (by decide +kernel), List.mem_of_getElem? (i := 1063) (by decide +kernel)⟩
theorem lw_p66 : lw_okq (⟨"PadeWorkbenchModel", "interpolate", "(I)V"⟩, 20) := ⟨⟨by decide +kernel, by decide +kernel⟩, List.mem_of_getElem? (i := 726) (by decide +kernel), List.mem_of_getElem? (i := 1074) (by decide +kernel), List.mem_of_getElem? (i := 1075) (by decide +kernel)⟩
theorem lw_p67 : lw_okq (⟨"PadeWorkbenchModel", "missed", "(I)I"⟩, 20) := ⟨⟨by decide +kernel, by decide +kernel⟩, List.mem_of_getElem? (i := 726) (by decide +kernel), List.mem_of_getElem? (i := 1082) (by decide +kernel), List.mem_of_getElem? (i := 1083) (by decide +kernel)⟩
def lw_privs_5 : List (MethodName × Nat) := [(⟨"PadeWorkbenchModel", "isRecurrent", "(III)Z"⟩, 20), (⟨"PadeWorkbenchModel", "points", "()I"⟩, 20), (⟨"PadeWorkbenchModel", "interpolate", "(I)V"⟩, 20), (⟨"PadeWorkbenchModel", "missed", "(I)I"⟩, 20)]
theorem lw_r5 : ∀ q ∈ lw_privs_5, lw_okq q := List.forall_mem_cons.mpr ⟨lw_p64, List.forall_mem_cons.mpr ⟨lw_p65, List.forall_mem_cons.mpr ⟨lw_p66, List.forall_mem_cons.mpr ⟨lw_p67, fun _ h => absurd h List.not_mem_nil⟩⟩⟩⟩
def lw_privs : List (MethodName × Nat) := lw_privs_1 ++ (lw_privs_2 ++ (lw_privs_3 ++ (lw_privs_4 ++ (lw_privs_5))))
def lw_tbl : List Cond := k2_sels lw_privs ++ tables_1
theorem lw_privs_ok : ∀ q ∈ lw_privs, lw_okq q := by
  show ∀ q ∈ lw_privs_1 ++ (lw_privs_2 ++ (lw_privs_3 ++ (lw_privs_4 ++ (lw_privs_5)))), lw_okq q
  exact List.forall_mem_append.mpr ⟨lw_r1, List.forall_mem_append.mpr ⟨lw_r2, List.forall_mem_append.mpr ⟨lw_r3, List.forall_mem_append.mpr ⟨lw_r4, lw_r5⟩⟩⟩⟩
end
section
def pw_T0 : u_T := fun k => match k with
  | 0 => ("PadeWorkbench$Euclid", "before", "LPadeWorkbench$Polynomial;", false)
  | 1 => ("PadeWorkbench$Euclid", "latest", "LPadeWorkbench$Polynomial;", false)
  | 2 => ("PadeWorkbench$Euclid", "cofactorBefore", "LPadeWorkbench$Polynomial;", false)
  | 3 => ("PadeWorkbench$Euclid", "cofactor", "LPadeWorkbench$Polynomial;", false)
  | 4 => ("PadeWorkbench$Euclid", "quotient", "LPadeWorkbench$Polynomial;", true)
  | _ => ("PadeWorkbench$Euclid", "p", "I", false)
def pw_Y0 : Nat → FieldType := fun k => match k with
  | 0 => .object "PadeWorkbench$Polynomial"
  | 1 => .object "PadeWorkbench$Polynomial"
  | 2 => .object "PadeWorkbench$Polynomial"
  | 3 => .object "PadeWorkbench$Polynomial"
  | 4 => .object "PadeWorkbench$Polynomial"
  | _ => .int
theorem pw_n0 : ∀ a, a < 6 → ∀ b, b < 6 → a ≠ b → (pw_T0 a).2.1 ≠ (pw_T0 b).2.1 := by decide +kernel
theorem pw_y0 : ∀ k, k < 6 → parseFieldDescriptor (pw_T0 k).2.2.1 = some (pw_Y0 k) := by decide +kernel
def pw_T1 : u_T := fun k => match k with
  | 0 => ("PadeWorkbench$Fraction", "top", "LPadeWorkbench$Polynomial;", true)
  | _ => ("PadeWorkbench$Fraction", "bottom", "LPadeWorkbench$Polynomial;", true)
def pw_Y1 : Nat → FieldType := fun k => match k with
  | 0 => .object "PadeWorkbench$Polynomial"
  | _ => .object "PadeWorkbench$Polynomial"
theorem pw_n1 : ∀ a, a < 2 → ∀ b, b < 2 → a ≠ b → (pw_T1 a).2.1 ≠ (pw_T1 b).2.1 := by decide +kernel
theorem pw_y1 : ∀ k, k < 2 → parseFieldDescriptor (pw_T1 k).2.2.1 = some (pw_Y1 k) := by decide +kernel
def pw_T2 : u_T := fun k => match k with
  | 0 => ("PadeWorkbench$FractionText", "bytes", "[I", true)
  | 1 => ("PadeWorkbench$FractionText", "length", "I", false)
  | 2 => ("PadeWorkbench$FractionText", "position", "I", false)
  | 3 => ("PadeWorkbench$FractionText", "p", "I", false)
  | 4 => ("PadeWorkbench$FractionText", "top", "[I", true)
  | _ => ("PadeWorkbench$FractionText", "bottom", "[I", true)
def pw_Y2 : Nat → FieldType := fun k => match k with
  | 0 => .array .int
  | 1 => .int
  | 2 => .int
  | 3 => .int
  | 4 => .array .int
  | _ => .array .int
theorem pw_n2 : ∀ a, a < 6 → ∀ b, b < 6 → a ≠ b → (pw_T2 a).2.1 ≠ (pw_T2 b).2.1 := by decide +kernel
theorem pw_y2 : ∀ k, k < 6 → parseFieldDescriptor (pw_T2 k).2.2.1 = some (pw_Y2 k) := by decide +kernel
def pw_T3 : u_T := fun k => match k with
  | 0 => ("PadeWorkbench$History", "states", "[LPadeWorkbench$State;", true)
  | 1 => ("PadeWorkbench$History", "next", "I", false)
  | _ => ("PadeWorkbench$History", "count", "I", false)
def pw_Y3 : Nat → FieldType := fun k => match k with
  | 0 => .array (.object "PadeWorkbench$State")
  | 1 => .int
  | _ => .int
theorem pw_n3 : ∀ a, a < 3 → ∀ b, b < 3 → a ≠ b → (pw_T3 a).2.1 ≠ (pw_T3 b).2.1 := by decide +kernel
theorem pw_y3 : ∀ k, k < 3 → parseFieldDescriptor (pw_T3 k).2.2.1 = some (pw_Y3 k) := by decide +kernel
def pw_T4 : u_T := fun k => match k with
  | 0 => ("PadeWorkbench$Polynomial", "row", "[I", true)
  | _ => ("PadeWorkbench$Polynomial", "degree", "I", false)
def pw_Y4 : Nat → FieldType := fun k => match k with
  | 0 => .array .int
  | _ => .int
theorem pw_n4 : ∀ a, a < 2 → ∀ b, b < 2 → a ≠ b → (pw_T4 a).2.1 ≠ (pw_T4 b).2.1 := by decide +kernel
theorem pw_y4 : ∀ k, k < 2 → parseFieldDescriptor (pw_T4 k).2.2.1 = some (pw_Y4 k) := by decide +kernel
def pw_T5 : u_T := fun k => match k with
  | 0 => ("PadeWorkbench$Register", "connection", "[I", false)
  | 1 => ("PadeWorkbench$Register", "older", "[I", false)
  | 2 => ("PadeWorkbench$Register", "spareRow", "[I", false)
  | _ => ("PadeWorkbench$Register", "size", "I", false)
def pw_Y5 : Nat → FieldType := fun k => match k with
  | 0 => .array .int
  | 1 => .array .int
  | 2 => .array .int
  | _ => .int
theorem pw_n5 : ∀ a, a < 4 → ∀ b, b < 4 → a ≠ b → (pw_T5 a).2.1 ≠ (pw_T5 b).2.1 := by decide +kernel
theorem pw_y5 : ∀ k, k < 4 → parseFieldDescriptor (pw_T5 k).2.2.1 = some (pw_Y5 k) := by decide +kernel
def pw_T6 : u_T := fun k => match k with
  | 0 => ("PadeWorkbench$Scheme", "q", "[I", true)
  | _ => ("PadeWorkbench$Scheme", "e", "[I", true)
def pw_Y6 : Nat → FieldType := fun k => match k with
  | 0 => .array .int
  | _ => .array .int
theorem pw_n6 : ∀ a, a < 2 → ∀ b, b < 2 → a ≠ b → (pw_T6 a).2.1 ≠ (pw_T6 b).2.1 := by decide +kernel
theorem pw_y6 : ∀ k, k < 2 → parseFieldDescriptor (pw_T6 k).2.2.1 = some (pw_Y6 k) := by decide +kernel
def pw_T7 : u_T := fun k => match k with
  | 0 => ("PadeWorkbench$State", "prime", "I", false)
  | 1 => ("PadeWorkbench$State", "series", "[[I", true)
  | 2 => ("PadeWorkbench$State", "points", "I", false)
  | 3 => ("PadeWorkbench$State", "xs", "[I", true)
  | _ => ("PadeWorkbench$State", "ys", "[I", true)
def pw_Y7 : Nat → FieldType := fun k => match k with
  | 0 => .int
  | 1 => .array (.array .int)
  | 2 => .int
  | 3 => .array .int
  | _ => .array .int
theorem pw_n7 : ∀ a, a < 5 → ∀ b, b < 5 → a ≠ b → (pw_T7 a).2.1 ≠ (pw_T7 b).2.1 := by decide +kernel
theorem pw_y7 : ∀ k, k < 5 → parseFieldDescriptor (pw_T7 k).2.2.1 = some (pw_Y7 k) := by decide +kernel
def pw_T8 : u_T := fun k => match k with
  | _ => ("PadeWorkbench$Toeplitz", "cells", "[[I", true)
def pw_Y8 : Nat → FieldType := fun k => match k with
  | _ => .array (.array .int)
theorem pw_n8 : ∀ a, a < 1 → ∀ b, b < 1 → a ≠ b → (pw_T8 a).2.1 ≠ (pw_T8 b).2.1 := by decide +kernel
theorem pw_y8 : ∀ k, k < 1 → parseFieldDescriptor (pw_T8 k).2.2.1 = some (pw_Y8 k) := by decide +kernel
def pw_T9 : u_T := fun k => match k with
  | 0 => ("PadeWorkbench", "now", "LPadeWorkbench$State;", true)
  | 1 => ("PadeWorkbench", "history", "LPadeWorkbench$History;", true)
  | 2 => ("PadeWorkbench", "text", "LPadeWorkbench$FractionText;", true)
  | 3 => ("PadeWorkbench", "euclid", "LPadeWorkbench$Euclid;", true)
  | 4 => ("PadeWorkbench", "fraction", "LPadeWorkbench$Fraction;", true)
  | 5 => ("PadeWorkbench", "toeplitz", "LPadeWorkbench$Toeplitz;", true)
  | 6 => ("PadeWorkbench", "scheme", "LPadeWorkbench$Scheme;", true)
  | 7 => ("PadeWorkbench", "register", "LPadeWorkbench$Register;", true)
  | 8 => ("PadeWorkbench", "result", "[I", true)
  | 9 => ("PadeWorkbench", "spare", "[I", true)
  | _ => ("PadeWorkbench", "errors", "[I", true)
def pw_Y9 : Nat → FieldType := fun k => match k with
  | 0 => .object "PadeWorkbench$State"
  | 1 => .object "PadeWorkbench$History"
  | 2 => .object "PadeWorkbench$FractionText"
  | 3 => .object "PadeWorkbench$Euclid"
  | 4 => .object "PadeWorkbench$Fraction"
  | 5 => .object "PadeWorkbench$Toeplitz"
  | 6 => .object "PadeWorkbench$Scheme"
  | 7 => .object "PadeWorkbench$Register"
  | 8 => .array .int
  | 9 => .array .int
  | _ => .array .int
theorem pw_n9 : ∀ a, a < 11 → ∀ b, b < 11 → a ≠ b → (pw_T9 a).2.1 ≠ (pw_T9 b).2.1 := by decide +kernel
theorem pw_y9 : ∀ k, k < 11 → parseFieldDescriptor (pw_T9 k).2.2.1 = some (pw_Y9 k) := by decide +kernel
def pw_T10 : u_T := fun k => match k with
  | 0 => ("PadeWorkbenchModel", "now", "[I", true)
  | 1 => ("PadeWorkbenchModel", "history", "[I", true)
  | 2 => ("PadeWorkbenchModel", "saved", "I", false)
  | 3 => ("PadeWorkbenchModel", "errors", "[I", true)
  | 4 => ("PadeWorkbenchModel", "text", "[I", true)
  | 5 => ("PadeWorkbenchModel", "length", "I", false)
  | 6 => ("PadeWorkbenchModel", "made", "[I", true)
  | 7 => ("PadeWorkbenchModel", "one", "[I", true)
  | 8 => ("PadeWorkbenchModel", "two", "[I", true)
  | 9 => ("PadeWorkbenchModel", "next", "I", false)
  | 10 => ("PadeWorkbenchModel", "matrix", "[I", true)
  | 11 => ("PadeWorkbenchModel", "pivot", "[I", true)
  | 12 => ("PadeWorkbenchModel", "vector", "[I", true)
  | 13 => ("PadeWorkbenchModel", "up", "[I", true)
  | 14 => ("PadeWorkbenchModel", "low", "[I", true)
  | 15 => ("PadeWorkbenchModel", "first", "[I", true)
  | 16 => ("PadeWorkbenchModel", "second", "[I", true)
  | 17 => ("PadeWorkbenchModel", "third", "[I", true)
  | 18 => ("PadeWorkbenchModel", "quotients", "[I", true)
  | _ => ("PadeWorkbenchModel", "differences", "[I", true)
def pw_Y10 : Nat → FieldType := fun k => match k with
  | 0 => .array .int
  | 1 => .array .int
  | 2 => .int
  | 3 => .array .int
  | 4 => .array .int
  | 5 => .int
  | 6 => .array .int
  | 7 => .array .int
  | 8 => .array .int
  | 9 => .int
  | 10 => .array .int
  | 11 => .array .int
  | 12 => .array .int
  | 13 => .array .int
  | 14 => .array .int
  | 15 => .array .int
  | 16 => .array .int
  | 17 => .array .int
  | 18 => .array .int
  | _ => .array .int
theorem pw_n10 : ∀ a, a < 20 → ∀ b, b < 20 → a ≠ b → (pw_T10 a).2.1 ≠ (pw_T10 b).2.1 := by decide +kernel
theorem pw_y10 : ∀ k, k < 20 → parseFieldDescriptor (pw_T10 k).2.2.1 = some (pw_Y10 k) := by decide +kernel
abbrev pw_cl : List vw_C := [("PadeWorkbench$Euclid", pw_T0, 6), ("PadeWorkbench$Fraction", pw_T1, 2), ("PadeWorkbench$FractionText", pw_T2, 6), ("PadeWorkbench$History", pw_T3, 3), ("PadeWorkbench$Polynomial", pw_T4, 2), ("PadeWorkbench$Register", pw_T5, 4), ("PadeWorkbench$Scheme", pw_T6, 2), ("PadeWorkbench$State", pw_T7, 5), ("PadeWorkbench$Toeplitz", pw_T8, 1), ("PadeWorkbench", pw_T9, 11), ("PadeWorkbenchModel", pw_T10, 20)]
def pw_ft : Nat → List Bool := fun c => match c with
  | 0 => [false, false, false, false, false, true]
  | 1 => [false, false]
  | 2 => [false, true, true, true, false, false]
  | 3 => [false, true, true]
  | 4 => [false, true]
  | 5 => [false, false, false, true]
  | 6 => [false, false]
  | 7 => [true, false, true, false, false]
  | 8 => [false]
  | 9 => [false, false, false, false, false, false, false, false, false, false, false]
  | 10 => [false, false, true, false, false, true, false, false, false, true, false, false, false, false, false, false, false, false, false, false]
  | _ => []
def pw_shT : List (Nat × Nat) := [(9, 0), (7, 0), (13, 4), (11, 16), (11, 16), (11, 16), (11, 16), (11, 10), (11, 10), (3, 0), (12, 4), (7, 0), (13, 4), (11, 16), (11, 16), (11, 16), (11, 16), (11, 10), (11, 10), (7, 0), (13, 4), (11, 16), (11, 16), (11, 16), (11, 16), (11, 10), (11, 10), (7, 0), (13, 4), (11, 16), (11, 16), (11, 16), (11, 16), (11, 10), (11, 10), (7, 0), (13, 4), (11, 16), (11, 16), (11, 16), (11, 16), (11, 10), (11, 10), (2, 0), (11, 80), (11, 16), (11, 16), (0, 0), (4, 0), (11, 17), (4, 0), (11, 17), (4, 0), (11, 17), (4, 0), (11, 17), (4, 0), (11, 17), (1, 0), (4, 0), (11, 17), (4, 0), (11, 17), (8, 0), (13, 16), (11, 16), (11, 16), (11, 16), (11, 16), (11, 16), (11, 16), (11, 16), (11, 16), (11, 16), (11, 16), (11, 16), (11, 16), (11, 16), (11, 16), (11, 16), (11, 16), (6, 0), (11, 16), (11, 16), (5, 0), (11, 17), (11, 17), (11, 17), (11, 16), (11, 16), (11, 3), (10, 0), (11, 86), (11, 344), (11, 3), (11, 80), (11, 16), (11, 16), (11, 16), (11, 324), (11, 18), (11, 18), (11, 18), (11, 18), (11, 18), (11, 18), (11, 18), (11, 170), (11, 170)]
def pw_sh (i : Nat) : Nat × Nat := pw_shT.getD i (99, 0)
def pw_nF : List (String × Nat × String × String × String × String) := [("PadeWorkbench", 83, "PadeWorkbench$State", "prime", "I", "PadeWorkbench"), ("PadeWorkbench$Euclid", 45, "PadeWorkbench$State", "prime", "I", "PadeWorkbench"), ("PadeWorkbench", 104, "PadeWorkbench$State", "series", "[[I", "PadeWorkbench"), ("PadeWorkbench$Euclid", 53, "PadeWorkbench$State", "points", "I", "PadeWorkbench"), ("PadeWorkbench", 226, "PadeWorkbench$State", "points", "I", "PadeWorkbench"), ("PadeWorkbench$Euclid", 56, "PadeWorkbench$State", "xs", "[I", "PadeWorkbench"), ("PadeWorkbench", 264, "PadeWorkbench$State", "xs", "[I", "PadeWorkbench"), ("PadeWorkbench$Euclid", 60, "PadeWorkbench$State", "ys", "[I", "PadeWorkbench"), ("PadeWorkbench", 267, "PadeWorkbench$State", "ys", "[I", "PadeWorkbench"), ("PadeWorkbench", 243, "PadeWorkbench$History", "count", "I", "PadeWorkbench"), ("PadeWorkbench", 131, "PadeWorkbench$FractionText", "length", "I", "PadeWorkbench"), ("PadeWorkbench", 140, "PadeWorkbench$FractionText", "position", "I", "PadeWorkbench"), ("PadeWorkbench", 146, "PadeWorkbench$FractionText", "top", "[I", "PadeWorkbench"), ("PadeWorkbench", 143, "PadeWorkbench$FractionText", "bottom", "[I", "PadeWorkbench"), ("PadeWorkbench$Fraction", 53, "PadeWorkbench$Polynomial", "row", "[I", "PadeWorkbench"), ("PadeWorkbench$Euclid", 96, "PadeWorkbench$Polynomial", "row", "[I", "PadeWorkbench"), ("PadeWorkbench", 167, "PadeWorkbench$Polynomial", "row", "[I", "PadeWorkbench"), ("PadeWorkbench$Fraction", 25, "PadeWorkbench$Polynomial", "degree", "I", "PadeWorkbench"), ("PadeWorkbench$Euclid", 87, "PadeWorkbench$Polynomial", "degree", "I", "PadeWorkbench"), ("PadeWorkbench", 160, "PadeWorkbench$Polynomial", "degree", "I", "PadeWorkbench"), ("PadeWorkbench", 202, "PadeWorkbench$Euclid", "latest", "LPadeWorkbench$Polynomial;", "PadeWorkbench"), ("PadeWorkbench", 292, "PadeWorkbench$Euclid", "cofactor", "LPadeWorkbench$Polynomial;", "PadeWorkbench"), ("PadeWorkbench", 208, "PadeWorkbench$Euclid", "quotient", "LPadeWorkbench$Polynomial;", "PadeWorkbench"), ("PadeWorkbench", 157, "PadeWorkbench$Fraction", "top", "LPadeWorkbench$Polynomial;", "PadeWorkbench"), ("PadeWorkbench", 165, "PadeWorkbench$Fraction", "bottom", "LPadeWorkbench$Polynomial;", "PadeWorkbench"), ("PadeWorkbench", 217, "PadeWorkbench$Register", "connection", "[I", "PadeWorkbench"), ("PadeWorkbench", 214, "PadeWorkbench$Register", "size", "I", "PadeWorkbench")]
def pw_nM : List (String × Nat × MethodName × String) := [("PadeWorkbench", 9, ⟨"PadeWorkbench$State", "<init>", "()V"⟩, "PadeWorkbench"), ("PadeWorkbench$History", 17, ⟨"PadeWorkbench$State", "<init>", "()V"⟩, "PadeWorkbench"), ("PadeWorkbench", 25, ⟨"PadeWorkbench$FractionText", "<init>", "()V"⟩, "PadeWorkbench"), ("PadeWorkbench", 32, ⟨"PadeWorkbench$Euclid", "<init>", "()V"⟩, "PadeWorkbench"), ("PadeWorkbench$Euclid", 11, ⟨"PadeWorkbench$Polynomial", "<init>", "()V"⟩, "PadeWorkbench"), ("PadeWorkbench", 39, ⟨"PadeWorkbench$Fraction", "<init>", "()V"⟩, "PadeWorkbench"), ("PadeWorkbench$Fraction", 11, ⟨"PadeWorkbench$Polynomial", "<init>", "()V"⟩, "PadeWorkbench"), ("PadeWorkbench", 46, ⟨"PadeWorkbench$Toeplitz", "<init>", "()V"⟩, "PadeWorkbench"), ("PadeWorkbench", 53, ⟨"PadeWorkbench$Scheme", "<init>", "()V"⟩, "PadeWorkbench"), ("PadeWorkbench", 60, ⟨"PadeWorkbench$Register", "<init>", "()V"⟩, "PadeWorkbench"), ("PadeWorkbench$Toeplitz", 41, ⟨"PadeWorkbench", "isTerm", "(I)Z"⟩, "PadeWorkbench")]
def pw_nO : List FieldType := [.array .int, .object "PadeWorkbench$State"]
def pw_nest : List Cond := pw_nF.map (fun q => .fieldLinkNest q.1 q.2.1 q.2.2.1 q.2.2.2.1 q.2.2.2.2.1 q.2.2.2.2.2) ++ (pw_nM.map (fun q => .methodLinkNest q.1 q.2.1 q.2.2.1 q.2.2.2) ++ pw_nO.map (fun q => .arrayOver q))
theorem pw_nest_warm {u U : State} (hW : u.WarmedH U.vm) {w : Cond} (hw : w ∈ pw_nest) (h : va_Nw w u) : va_Nw w U := by
  rcases List.mem_append.mp hw with q | q
  · obtain ⟨x, -, rfl⟩ := List.mem_map.mp q
    exact va_Nw.warmF hW h
  · rcases List.mem_append.mp q with q | q
    · obtain ⟨x, -, rfl⟩ := List.mem_map.mp q
      exact va_Nw.warmM hW h
    · obtain ⟨x, -, rfl⟩ := List.mem_map.mp q
      have h2 : (Cond.arrayOver x).before #[] (u.setVm U.vm) = true := (Cond.arrayOver_setVmC hW.alike x).trans h
      exact h2
end
section
/-! the store: how many cells there are, the ints of each cell, the references of each cell (by number) -/
abbrev pw_Sto : Type := Nat × (Nat → Nat → Int) × (Nat → Nat → Option Nat)
def iI (z : Int) : Int32 := Int32.ofInt z
abbrev pw_R (x : Int) : Prop := -2147483648 ≤ x ∧ x ≤ 2147483647
theorem iI_add (x y : Int) : iI x + iI y = iI (x + y) := (Int32.ofInt_add x y).symm
theorem iI_sub (x y : Int) : iI x - iI y = iI (x - y) := (Int32.ofInt_sub x y).symm
theorem iI_mul (x y : Int) : iI x * iI y = iI (x * y) := (Int32.ofInt_mul x y).symm
theorem iI_neg (x : Int) : -iI x = iI (-x) := (Int32.ofInt_neg x).symm
theorem iI_toInt {x : Int} (h : pw_R x) : (iI x).toInt = x := Int32.toInt_ofInt_of_le (by omega) (by omega)
theorem iI_of (v : Int32) : iI v.toInt = v := Int32.ofInt_toInt v
theorem iI_le {x y : Int} (hx : pw_R x) (hy : pw_R y) : iI x ≤ iI y ↔ x ≤ y := by rw [Int32.le_iff_toInt_le, iI_toInt hx, iI_toInt hy]
theorem iI_lt {x y : Int} (hx : pw_R x) (hy : pw_R y) : iI x < iI y ↔ x < y := by rw [Int32.lt_iff_toInt_lt, iI_toInt hx, iI_toInt hy]
theorem iI_eq {x y : Int} (hx : pw_R x) (hy : pw_R y) : iI x = iI y ↔ x = y := by rw [← Int32.toInt_inj, iI_toInt hx, iI_toInt hy]
theorem iI_cl {x : Int} (h : pw_R x) : (iI x).toNatClampNeg = x.toNat := Int32.toNatClampNeg_ofInt_of_le (by omega) (by omega)
theorem iI_rem {x y : Int} (hx : pw_R x) (hy : pw_R y) (h0 : 0 < y) : iI x - iI x / iI y * iI y = iI (x.tmod y) := by
  have h : iI x / iI y = iI (x.tdiv y) := (Int32.ofInt_tdiv (by show -2147483648 ≤ x; omega) (by show x ≤ 2147483647; omega) (by show -2147483648 ≤ y; omega) (by show y ≤ 2147483647; omega)).symm
  rw [h, iI_mul, iI_sub, Int.tmod_def, Int.mul_comm]
def pw_gt : List Cond := lw_tbl.filter goodWord
theorem pw_gt_at {w : Cond} (i : Nat) (h : lw_tbl[i]? = some w) (hg : goodWord w = true) : w ∈ pw_gt := List.mem_filter.mpr ⟨List.mem_of_getElem? h, hg⟩
theorem pw_good {c2 : Cond} (h : c2 ∈ pw_gt) : GoodIn pw_gt (c2 :: pw_gt) := by
  intro w hw
  have hm : w ∈ pw_gt := by
    rcases List.mem_cons.mp hw with e | e
    · rw [e]; exact h
    · exact e
  exact ⟨hm, good_of_word (List.mem_filter.mp hm).2⟩
def pw_tr (b : Nat) : Value → Value
  | .ref i => .ref (b + i)
  | .retAddr a => .ref a
  | v => v
theorem pw_tr_cat (b : Nat) (v : Value) : (pw_tr b v).category = v.category := by cases v <;> rfl
def pw_trq (b : Nat) (q : Nat × Value) : Nat × Value := (q.1, pw_tr b q.2)
def pw_u2 {β : Type} (f : Nat → Nat → β) (o k : Nat) (v : β) : Nat → Nat → β := fun i => if i = o then (fun j => if j = k then v else f o j) else f i
def pw_fld (b : Nat) (σ : pw_Sto) (i : Nat) (isI : Bool) (k : Nat) : Value := match isI with
  | true => .int (iI (σ.2.1 i k))
  | false => va_rf ((σ.2.2 i k).map (fun j => b + j))
def pw_flds (b : Nat) (σ : pw_Sto) (i : Nat) (t : List Bool) : List Value := t.mapIdx (fun k isI => pw_fld b σ i isI k)
abbrev pw_E : Type := Nat × va_G × ClassId × ClassId × ClassId
def pw_cell (E : pw_E) (σ : pw_Sto) (i : Nat) : va_E :=
  if (pw_sh i).1 = 11 then .inl (E.2.2.1, (pw_sh i).2, .inl (fun k => iI (σ.2.1 i k)))
  else if (pw_sh i).1 = 12 then .inl (E.2.2.2.1, (pw_sh i).2, .inr (.inr (.inr (.inr (fun k => (σ.2.2 i k).map (fun j => E.1 + j))))))
  else if (pw_sh i).1 = 13 then .inl (E.2.2.2.2, (pw_sh i).2, .inr (.inr (.inr (.inr (fun k => (σ.2.2 i k).map (fun j => E.1 + j))))))
  else .inr ((pw_sh i).1, pw_flds E.1 σ i (pw_ft (pw_sh i).1))
def pw_ws (E : pw_E) (σ : pw_Sto) : va_W := (List.range σ.1).map (fun i => (E.1 + i, pw_cell E σ i))
def pw_tys (E : pw_E) : List (ClassId × FieldType) := [(E.2.2.1, .int), (E.2.2.2.1, .object "PadeWorkbench$State"), (E.2.2.2.2, .array .int)]
def pw_H (E : pw_E) (σ : pw_Sto) (H : Heap) : Prop := va_P E.2.1 pw_cl (pw_ws E σ) H
def pw_ov (ty : FieldType) (U : State) : Prop := (Cond.arrayOver ty).before #[] U = true
def pw_T (E : pw_E) (U : State) : Prop := va_K E.2.1 pw_cl (pw_tys E) U ∧ (∀ w ∈ pw_nest, va_Nw w U)
def pw_U (E : pw_E) (σ : pw_Sto) (U : State) : Prop := pw_H E σ U.heap ∧ U.heap.size = E.1 + σ.1 ∧ pw_T E U
theorem pw_ws_at {E : pw_E} {σ : pw_Sto} {i : Nat} (h : i < σ.1) : (pw_ws E σ)[i]? = some (E.1 + i, pw_cell E σ i) := by
  unfold pw_ws
  rw [List.getElem?_map, List.getElem?_range h]
  rfl
theorem pw_ws_D (E : pw_E) (σ : pw_Sto) : va_D (fun q => E.1 ≤ q) (pw_ws E σ) := by
  have key : ∀ (k : Nat) (q : Nat × va_E), (pw_ws E σ)[k]? = some q → q.1 = E.1 + k := by
    intro k q h
    unfold pw_ws at h
    rw [List.getElem?_map] at h
    by_cases hk : k < σ.1
    · rw [List.getElem?_range hk] at h
      cases h
      rfl
    · rw [List.getElem?_eq_none (by rw [List.length_range]; omega)] at h
      cases h
  refine ⟨fun i j p q hi hj h => ?_, fun k q h => ?_⟩
  · have h1 := key i p hi
    have h2 := key j q hj
    omega
  · have h1 := key k q h
    show E.1 ≤ q.1
    omega
theorem pw_ws_set {E : pw_E} {σ σ' : pw_Sto} {o : Nat} (hN : σ'.1 = σ.1) (ho : o < σ.1) (hc : ∀ j, j ≠ o → pw_cell E σ' j = pw_cell E σ j) {e : va_E} (he : pw_cell E σ' o = e) : (pw_ws E σ).set o (E.1 + o, e) = pw_ws E σ' := by
  apply List.ext_getElem?
  intro k
  by_cases hk : k = o
  · subst hk
    rw [List.getElem?_set_self (by unfold pw_ws; simpa using ho), pw_ws_at (by rw [hN]; exact ho), he]
  · rw [List.getElem?_set_ne (Ne.symm hk)]
    unfold pw_ws
    rw [hN, List.getElem?_map, List.getElem?_map]
    by_cases h : k < σ.1
    · rw [List.getElem?_range h]
      show some (E.1 + k, pw_cell E σ k) = some (E.1 + k, pw_cell E σ' k)
      rw [hc k hk]
    · rw [List.getElem?_eq_none (by rw [List.length_range]; omega)]
      rfl
theorem pw_va_P_setK {E : pw_E} {σ σ' : pw_Sto} {H : Heap} {o : Nat} {e : va_E} (hN : σ'.1 = σ.1) (ho : o < σ.1) (hc : ∀ j, j ≠ o → pw_cell E σ' j = pw_cell E σ j) (he : pw_cell E σ' o = e) (h : va_P E.2.1 pw_cl ((pw_ws E σ).set o (E.1 + o, e)) H) : va_P E.2.1 pw_cl (pw_ws E σ') H := by
  rw [pw_ws_set hN ho hc he] at h
  exact h
theorem pw_T.moved {E : pw_E} {u U : State} (hW : u.WarmedH U.vm) (h : pw_T E u) : pw_T E U := ⟨va_K.moved hW.alike h.1, fun w hw => pw_nest_warm hW hw (h.2 w hw)⟩
/-! the machine's context of a walk, in one: program .. code; the end; base, classes; the outcome; new cells, new slots -/
abbrev pw_X (α : Type) : Type := (Program × Launch × Env × Room × State × MethodId × Array Value × List Frame × Method × Code) × (State → Prop) × pw_E × (α × pw_Sto) × Nat × Nat
def pw_W {α : Type} (X : pw_X α) (H : Heap) (locs : List Loc) (cells slots : Nat) (g : JFrame) : Prop :=
  W X.1.1 X.1.2.1 X.1.2.2.1 X.1.2.2.2.1 X.1.2.2.2.2.1 X.1.2.2.2.2.2.1 X.1.2.2.2.2.2.2.1 X.1.2.2.2.2.2.2.2.1 X.1.2.2.2.2.2.2.2.2.1 X.1.2.2.2.2.2.2.2.2.2 H locs cells slots X.2.1 g
def pw_Sp {α : Type} (X : pw_X α) (cells slots pc : Nat) (L : List (Nat × Value)) (st : List Value) (σ : pw_Sto) (F : Option (α × pw_Sto)) : Prop :=
  F = some X.2.2.2.1 → X.2.2.1.1 + σ.1 = X.1.2.2.2.2.1.heap.size + cells → ∀ (H : Heap) (locs : List Loc) (ls : Array Slot), lv_has ls X.1.2.2.2.2.2.2.2.2.2.maxLocals (L.map (pw_trq X.2.2.1.1)) → pw_H X.2.2.1 σ H → va_S (fun q => X.2.2.1.1 ≤ q) X.1.2.2.2.2.1.heap H locs → pw_W X H locs cells slots (F0 X.1.2.2.2.2.2.1 pc ls (st.map (pw_tr X.2.2.1.1)))
/-- what a walk stands on: the machine, the bytes, the words, the room -/
def pw_Ok {α : Type} (X : pw_X α) (cc : ByteArray) (own : String) (rm : Room) (nL : Nat) : Prop :=
  X.1.1.tables.exec = Jvm.exec ∧ X.1.2.2.2.2.2.2.2.2.2.code = cc ∧ X.1.2.2.2.2.2.2.2.2.2.maxLocals = nL ∧ X.1.2.2.2.1 = rm ∧ X.1.2.2.2.2.1.vm.findClass own = some X.1.2.2.2.2.2.1.cls ∧ (∀ w ∈ pw_gt, w.before X.1.2.2.2.2.2.2.1 X.1.2.2.2.2.1 = true) ∧ pw_T X.2.2.1 X.1.2.2.2.2.1 ∧ X.2.2.1.1 ≤ X.1.2.2.2.2.1.heap.size ∧ X.2.2.2.2.1 = rm.cells ∧ X.2.2.2.2.2 = rm.slots
theorem pw_none {α : Type} {X : pw_X α} {cells slots pc : Nat} {L : List (Nat × Value)} {st : List Value} {σ : pw_Sto} : pw_Sp X cells slots pc L st σ none := fun h => by cases h
theorem pw_filt {b : Nat} {L : List (Nat × Value)} (P : Nat → Nat → Bool) : (L.map (pw_trq b)).filter (fun q => P q.1 q.2.category) = (L.filter (fun q => P q.1 q.2.category)).map (pw_trq b) := by
  rw [List.filter_map]
  congr 1
  apply congrArg (fun f => List.filter f L)
  funext q
  show P q.1 (pw_tr b q.2).category = P q.1 q.2.category
  rw [pw_tr_cat]
theorem pw_hasEq {ls : Array Slot} {n : Nat} {l l' : List (Nat × Value)} (h : l = l') (k : lv_has ls n l) : lv_has ls n l' := h ▸ k
def pw_st1 (i : Nat) (v : Value) (L : List (Nat × Value)) : List (Nat × Value) := (i, v) :: L.filter (fun q => !(q.1 == i) && !(q.1 + 1 == i && q.2.category == 2))
def pw_st2 (i : Nat) (v : Value) (L : List (Nat × Value)) : List (Nat × Value) := (i, v) :: L.filter (fun q => !(q.1 == i) && (!(q.1 == i + 1) && !(q.1 + 1 == i && q.2.category == 2)))
theorem pw_st1_eq {b i : Nat} {v : Value} {L L' : List (Nat × Value)} (h : pw_st1 i v L = L') : (i, pw_tr b v) :: (L.map (pw_trq b)).filter (fun q => !(q.1 == i) && !(q.1 + 1 == i && q.2.category == 2)) = L'.map (pw_trq b) := by
  rw [← h]
  unfold pw_st1
  rw [List.map_cons]
  exact congrArg (fun l => (i, pw_tr b v) :: l) (pw_filt (fun k c => !(k == i) && !(k + 1 == i && c == 2)))
theorem pw_st2_eq {b i : Nat} {v : Value} {L L' : List (Nat × Value)} (h : pw_st2 i v L = L') : (i, pw_tr b v) :: (L.map (pw_trq b)).filter (fun q => !(q.1 == i) && (!(q.1 == i + 1) && !(q.1 + 1 == i && q.2.category == 2))) = L'.map (pw_trq b) := by
  rw [← h]
  unfold pw_st2
  rw [List.map_cons]
  exact congrArg (fun l => (i, pw_tr b v) :: l) (pw_filt (fun k c => !(k == i) && (!(k == i + 1) && !(k + 1 == i && c == 2))))
theorem pw_at {b : Nat} {L : List (Nat × Value)} {k i : Nat} {v : Value} (h : L[k]? = some (i, v)) : (L.map (pw_trq b))[k]? = some (i, pw_tr b v) := by
  rw [List.getElem?_map, h]
  rfl
theorem iI_andm (k : Nat) (hk : k < 32) (x : Int) : iI x &&& Int32.ofInt (2 ^ k - 1) = iI (x % (2 ^ k : Nat)) := by
  rw [← Int32.toBitVec_inj]
  show BitVec.ofInt 32 x &&& BitVec.ofInt 32 (2 ^ k - 1) = BitVec.ofInt 32 (x % (2 ^ k : Nat))
  apply BitVec.eq_of_toNat_eq
  have h2 : (0 : Int) < (2 ^ k : Nat) := by exact_mod_cast Nat.two_pow_pos k
  have hle : 2 ^ k ≤ 2 ^ 31 := Nat.pow_le_pow_right (by omega) (by omega)
  rw [BitVec.toNat_and, BitVec.toNat_ofInt, BitVec.toNat_ofInt, BitVec.toNat_ofInt]
  have e1 : ((2 ^ k - 1 : Int) % ((2 ^ 32 : Nat) : Int)).toNat = 2 ^ k - 1 := by
    have : (2 ^ k - 1 : Int) = ((2 ^ k - 1 : Nat) : Int) := by
      rw [Int.natCast_sub (Nat.two_pow_pos k), Int.natCast_pow]
      rfl
    rw [this, ← Int.natCast_emod, Int.toNat_natCast, Nat.mod_eq_of_lt (by omega)]
  rw [e1, Nat.and_two_pow_sub_one_eq_mod]
  have hz : 0 ≤ x % ((2 ^ 32 : Nat) : Int) := Int.emod_nonneg _ (by decide)
  have hm : 0 ≤ x % ((2 ^ k : Nat) : Int) := Int.emod_nonneg _ (by omega)
  have hm2 : x % ((2 ^ k : Nat) : Int) < ((2 ^ k : Nat) : Int) := Int.emod_lt_of_pos _ h2
  have e2 : ((x % ((2 ^ 32 : Nat) : Int)).toNat % 2 ^ k : Nat) = (x % ((2 ^ k : Nat) : Int)).toNat := by
    have h5 : (((x % ((2 ^ 32 : Nat) : Int)).toNat % 2 ^ k : Nat) : Int) = ((x % ((2 ^ k : Nat) : Int)).toNat : Int) := by
      rw [Int.natCast_emod, Int.toNat_of_nonneg hz, Int.toNat_of_nonneg hm]
      apply Int.emod_emod_of_dvd
      exact_mod_cast Nat.pow_dvd_pow 2 (by omega : k ≤ 32)
    exact_mod_cast h5
  rw [e2]
  have h6 : x % ((2 ^ k : Nat) : Int) < ((2 ^ 32 : Nat) : Int) := by omega
  rw [Int.emod_eq_of_lt hm h6]
theorem iI_and1 (x : Int) : iI x &&& iI 1 = iI (x % 2) := iI_andm 1 (by decide) x
theorem iI_and3 (x : Int) : iI x &&& iI 3 = iI (x % 4) := iI_andm 2 (by decide) x
theorem iI_and31 (x : Int) : iI x &&& iI 31 = iI (x % 32) := iI_andm 5 (by decide) x
theorem iI_shr1 {x : Int} (h : 0 ≤ x ∧ x ≤ 2147483647) : iI x >>> (iI 1 &&& 31) = iI (x / 2) := by
  rw [← Int32.toInt_inj]
  have e : (iI 1 &&& 31 : Int32) = 1 := by decide
  rw [e, iI_toInt (x := x / 2) (by omega)]
  have e2 : ((Int32.toBitVec 1).smod 32).toNat = 1 := by decide
  show ((iI x).toBitVec.sshiftRight ((Int32.toBitVec 1).smod 32).toNat).toInt = x / 2
  rw [e2]
  rw [BitVec.toInt_sshiftRight]
  have e3 : (iI x).toBitVec.toInt = x := iI_toInt (by omega)
  rw [e3, Int.shiftRight_eq_div_pow]
  rfl
def pw_ck {β : Type} (x y : Int) (F : Option β) : Option β := if pw_R x ∧ pw_R y then F else none
theorem pw_ck_ok {β : Type} {x y : Int} {F : Option β} (hx : pw_R x) (hy : pw_R y) : pw_ck x y F = F := if_pos ⟨hx, hy⟩
section PWR
variable {α : Type} {X : pw_X α} {cc : ByteArray} {own : String} {rm : Room} {nL cells slots pc : Nat} {L L' : List (Nat × Value)} {st : List Value} {σ : pw_Sto} {F : Option (α × pw_Sto)}
theorem sp_iconst (hX : pw_Ok X cc own rm nL) {n : Int} (d : decode cc pc = .ok (.iconst n, 1)) (K : pw_Sp X cells slots (pc + 1) L (.int (iI n) :: st) σ F) : pw_Sp X cells slots pc L (st) σ F := by
  obtain ⟨⟨p, l, e, R, s, m, args, below, meth, c⟩, Q, ⟨b, D, c1, c2, c3⟩, out, mc, ms⟩ := X
  intro hF hN H locs ls hl hH hS
  exact lv_iconst hX.1 hX.2.1 d rfl (K hF hN H locs ls hl hH hS)
theorem sp_bipush (hX : pw_Ok X cc own rm nL) {n : Int} (hv : (Int8.ofInt n).toInt32 = iI n) (d : decode cc pc = .ok (.bipush n, 2)) (K : pw_Sp X cells slots (pc + 2) L (.int (iI n) :: st) σ F) : pw_Sp X cells slots pc L (st) σ F := by
  obtain ⟨⟨p, l, e, R, s, m, args, below, meth, c⟩, Q, ⟨b, D, c1, c2, c3⟩, out, mc, ms⟩ := X
  intro hF hN H locs ls hl hH hS
  exact lv_bipush hX.1 hX.2.1 d hv (K hF hN H locs ls hl hH hS)
theorem sp_sipush (hX : pw_Ok X cc own rm nL) {n : Int} (hv : (Int16.ofInt n).toInt32 = iI n) (d : decode cc pc = .ok (.sipush n, 3)) (K : pw_Sp X cells slots (pc + 3) L (.int (iI n) :: st) σ F) : pw_Sp X cells slots pc L (st) σ F := by
  obtain ⟨⟨p, l, e, R, s, m, args, below, meth, c⟩, Q, ⟨b, D, c1, c2, c3⟩, out, mc, ms⟩ := X
  intro hF hN H locs ls hl hH hS
  exact lv_sipush hX.1 hX.2.1 d hv (K hF hN H locs ls hl hH hS)
theorem sp_ldc2 (hX : pw_Ok X cc own rm nL) {i : Nat} (v : Int64) (hw : Cond.constantLong own i v ∈ pw_gt) (d : decode cc pc = .ok (.ldc2_w i, 3)) (K : pw_Sp X cells slots (pc + 3) L (.long v :: st) σ F) : pw_Sp X cells slots pc L (st) σ F := by
  obtain ⟨⟨p, l, e, R, s, m, args, below, meth, c⟩, Q, ⟨b, D, c1, c2, c3⟩, out, mc, ms⟩ := X
  intro hF hN H locs ls hl hH hS
  exact lv_ldc2 hX.1 hX.2.1 hX.2.2.2.2.1 (hX.2.2.2.2.2.1 _ hw) d (K hF hN H locs ls hl hH hS)
theorem sp_iload_n (hX : pw_Ok X cc own rm nL) {k : Fin 4} {i : Nat} {x : Int32} (hi : (k : Nat) = i) (j : Nat) (hj : L[j]? = some (i, .int x)) (d : decode cc pc = .ok (.iload_n k, 1)) (K : pw_Sp X cells slots (pc + 1) L (.int x :: st) σ F) : pw_Sp X cells slots pc L (st) σ F := by
  obtain ⟨⟨p, l, e, R, s, m, args, below, meth, c⟩, Q, ⟨b, D, c1, c2, c3⟩, out, mc, ms⟩ := X
  intro hF hN H locs ls hl hH hS
  exact lv_iload_n hX.1 hX.2.1 d hi (lv_at hl j (pw_at hj)) (K hF hN H locs ls hl hH hS)
theorem sp_iload (hX : pw_Ok X cc own rm nL) {i : Nat} {x : Int32} (j : Nat) (hj : L[j]? = some (i, .int x)) (d : decode cc pc = .ok (.iload i, 2)) (K : pw_Sp X cells slots (pc + 2) L (.int x :: st) σ F) : pw_Sp X cells slots pc L (st) σ F := by
  obtain ⟨⟨p, l, e, R, s, m, args, below, meth, c⟩, Q, ⟨b, D, c1, c2, c3⟩, out, mc, ms⟩ := X
  intro hF hN H locs ls hl hH hS
  exact lv_iload hX.1 hX.2.1 d (lv_at hl j (pw_at hj)) (K hF hN H locs ls hl hH hS)
theorem sp_lload_n (hX : pw_Ok X cc own rm nL) {k : Fin 4} {i : Nat} {x : Int64} (hi : (k : Nat) = i) (j : Nat) (hj : L[j]? = some (i, .long x)) (d : decode cc pc = .ok (.lload_n k, 1)) (K : pw_Sp X cells slots (pc + 1) L (.long x :: st) σ F) : pw_Sp X cells slots pc L (st) σ F := by
  obtain ⟨⟨p, l, e, R, s, m, args, below, meth, c⟩, Q, ⟨b, D, c1, c2, c3⟩, out, mc, ms⟩ := X
  intro hF hN H locs ls hl hH hS
  exact lv_lload_n hX.1 hX.2.1 d hi (lv_at hl j (pw_at hj)) (K hF hN H locs ls hl hH hS)
theorem sp_lload (hX : pw_Ok X cc own rm nL) {i : Nat} {x : Int64} (j : Nat) (hj : L[j]? = some (i, .long x)) (d : decode cc pc = .ok (.lload i, 2)) (K : pw_Sp X cells slots (pc + 2) L (.long x :: st) σ F) : pw_Sp X cells slots pc L (st) σ F := by
  obtain ⟨⟨p, l, e, R, s, m, args, below, meth, c⟩, Q, ⟨b, D, c1, c2, c3⟩, out, mc, ms⟩ := X
  intro hF hN H locs ls hl hH hS
  exact lv_lload hX.1 hX.2.1 d (lv_at hl j (pw_at hj)) (K hF hN H locs ls hl hH hS)
theorem sp_aload_n (hX : pw_Ok X cc own rm nL) {k : Fin 4} {i : Nat} {x : Nat} (hi : (k : Nat) = i) (j : Nat) (hj : L[j]? = some (i, .ref x)) (d : decode cc pc = .ok (.aload_n k, 1)) (K : pw_Sp X cells slots (pc + 1) L (.ref x :: st) σ F) : pw_Sp X cells slots pc L (st) σ F := by
  obtain ⟨⟨p, l, e, R, s, m, args, below, meth, c⟩, Q, ⟨b, D, c1, c2, c3⟩, out, mc, ms⟩ := X
  intro hF hN H locs ls hl hH hS
  exact lv_aload_n hX.1 hX.2.1 d hi (lv_at hl j (pw_at hj)) (K hF hN H locs ls hl hH hS)
theorem sp_aload (hX : pw_Ok X cc own rm nL) {i : Nat} {x : Nat} (j : Nat) (hj : L[j]? = some (i, .ref x)) (d : decode cc pc = .ok (.aload i, 2)) (K : pw_Sp X cells slots (pc + 2) L (.ref x :: st) σ F) : pw_Sp X cells slots pc L (st) σ F := by
  obtain ⟨⟨p, l, e, R, s, m, args, below, meth, c⟩, Q, ⟨b, D, c1, c2, c3⟩, out, mc, ms⟩ := X
  intro hF hN H locs ls hl hH hS
  exact lv_aload hX.1 hX.2.1 d (lv_at hl j (pw_at hj)) (K hF hN H locs ls hl hH hS)
theorem sp_xload_n (hX : pw_Ok X cc own rm nL) {k : Fin 4} {i : Nat} {x : Nat} (hi : (k : Nat) = i) (j : Nat) (hj : L[j]? = some (i, .retAddr x)) (d : decode cc pc = .ok (.aload_n k, 1)) (K : pw_Sp X cells slots (pc + 1) L (.retAddr x :: st) σ F) : pw_Sp X cells slots pc L (st) σ F := by
  obtain ⟨⟨p, l, e, R, s, m, args, below, meth, c⟩, Q, ⟨b, D, c1, c2, c3⟩, out, mc, ms⟩ := X
  intro hF hN H locs ls hl hH hS
  exact lv_aload_n hX.1 hX.2.1 d hi (lv_at hl j (pw_at hj)) (K hF hN H locs ls hl hH hS)
theorem sp_istore_n (hX : pw_Ok X cc own rm nL) {k : Fin 4} {i : Nat} {x : Int32} (hi : (k : Nat) = i) (hn : i < nL) (hL : pw_st1 i (.int x) L = L') (d : decode cc pc = .ok (.istore_n k, 1)) (K : pw_Sp X cells slots (pc + 1) L' st σ F) : pw_Sp X cells slots pc L (.int x :: st) σ F := by
  obtain ⟨⟨p, l, e, R, s, m, args, below, meth, c⟩, Q, ⟨b, D, c1, c2, c3⟩, out, mc, ms⟩ := X
  intro hF hN H locs ls hl hH hS
  exact lv_istore_n hX.1 hX.2.1 d hi hl (by rw [hX.2.2.1]; exact hn) (pw_st1_eq (b := b) hL) (fun ls hl => K hF hN H locs ls hl hH hS)
theorem sp_istore (hX : pw_Ok X cc own rm nL) {i : Nat} {x : Int32} (hn : i < nL) (hL : pw_st1 i (.int x) L = L') (d : decode cc pc = .ok (.istore i, 2)) (K : pw_Sp X cells slots (pc + 2) L' st σ F) : pw_Sp X cells slots pc L (.int x :: st) σ F := by
  obtain ⟨⟨p, l, e, R, s, m, args, below, meth, c⟩, Q, ⟨b, D, c1, c2, c3⟩, out, mc, ms⟩ := X
  intro hF hN H locs ls hl hH hS
  exact lv_istore hX.1 hX.2.1 d hl (by rw [hX.2.2.1]; exact hn) (pw_st1_eq (b := b) hL) (fun ls hl => K hF hN H locs ls hl hH hS)
theorem sp_lstore_n (hX : pw_Ok X cc own rm nL) {k : Fin 4} {i : Nat} {x : Int64} (hi : (k : Nat) = i) (hn : i + 1 < nL) (hL : pw_st2 i (.long x) L = L') (d : decode cc pc = .ok (.lstore_n k, 1)) (K : pw_Sp X cells slots (pc + 1) L' st σ F) : pw_Sp X cells slots pc L (.long x :: st) σ F := by
  obtain ⟨⟨p, l, e, R, s, m, args, below, meth, c⟩, Q, ⟨b, D, c1, c2, c3⟩, out, mc, ms⟩ := X
  intro hF hN H locs ls hl hH hS
  exact lv_lstore_n hX.1 hX.2.1 d hi hl (by rw [hX.2.2.1]; exact hn) (pw_st2_eq (b := b) hL) (fun ls hl => K hF hN H locs ls hl hH hS)
theorem sp_lstore (hX : pw_Ok X cc own rm nL) {i : Nat} {x : Int64} (hn : i + 1 < nL) (hL : pw_st2 i (.long x) L = L') (d : decode cc pc = .ok (.lstore i, 2)) (K : pw_Sp X cells slots (pc + 2) L' st σ F) : pw_Sp X cells slots pc L (.long x :: st) σ F := by
  obtain ⟨⟨p, l, e, R, s, m, args, below, meth, c⟩, Q, ⟨b, D, c1, c2, c3⟩, out, mc, ms⟩ := X
  intro hF hN H locs ls hl hH hS
  exact lv_lstore hX.1 hX.2.1 d hl (by rw [hX.2.2.1]; exact hn) (pw_st2_eq (b := b) hL) (fun ls hl => K hF hN H locs ls hl hH hS)
theorem sp_astore_n (hX : pw_Ok X cc own rm nL) {k : Fin 4} {i : Nat} {x : Nat} (hi : (k : Nat) = i) (hn : i < nL) (hL : pw_st1 i (.ref x) L = L') (d : decode cc pc = .ok (.astore_n k, 1)) (K : pw_Sp X cells slots (pc + 1) L' st σ F) : pw_Sp X cells slots pc L (.ref x :: st) σ F := by
  obtain ⟨⟨p, l, e, R, s, m, args, below, meth, c⟩, Q, ⟨b, D, c1, c2, c3⟩, out, mc, ms⟩ := X
  intro hF hN H locs ls hl hH hS
  exact lv_astore_n hX.1 hX.2.1 d hi hl (by rw [hX.2.2.1]; exact hn) (pw_st1_eq (b := b) hL) (fun ls hl => K hF hN H locs ls hl hH hS)
theorem sp_astore (hX : pw_Ok X cc own rm nL) {i : Nat} {x : Nat} (hn : i < nL) (hL : pw_st1 i (.ref x) L = L') (d : decode cc pc = .ok (.astore i, 2)) (K : pw_Sp X cells slots (pc + 2) L' st σ F) : pw_Sp X cells slots pc L (.ref x :: st) σ F := by
  obtain ⟨⟨p, l, e, R, s, m, args, below, meth, c⟩, Q, ⟨b, D, c1, c2, c3⟩, out, mc, ms⟩ := X
  intro hF hN H locs ls hl hH hS
  exact lv_astore hX.1 hX.2.1 d hl (by rw [hX.2.2.1]; exact hn) (pw_st1_eq (b := b) hL) (fun ls hl => K hF hN H locs ls hl hH hS)
theorem sp_iinc (hX : pw_Ok X cc own rm nL) {i : Nat} {n : Int} {x : Int} (j : Nat) (hj : L[j]? = some (i, .int (iI x))) (hn : i < nL) (hL : pw_st1 i (.int (iI (x + n))) L = L') (d : decode cc pc = .ok (.iinc i n, 3)) (K : pw_Sp X cells slots (pc + 3) L' st σ F) : pw_Sp X cells slots pc L st σ F := by
  obtain ⟨⟨p, l, e, R, s, m, args, below, meth, c⟩, Q, ⟨b, D, c1, c2, c3⟩, out, mc, ms⟩ := X
  intro hF hN H locs ls hl hH hS
  exact lv_iinc hX.1 hX.2.1 d hl (k := j) (pw_at hj) (iI_add x n) (by rw [hX.2.2.1]; exact hn) (pw_st1_eq (b := b) hL) (fun ls hl => K hF hN H locs ls hl hH hS)
theorem sp_iadd (hX : pw_Ok X cc own rm nL) {x y : Int} (d : decode cc pc = .ok (.iadd, 1)) (K : pw_Sp X cells slots (pc + 1) L (.int (iI (x + y)) :: st) σ F) : pw_Sp X cells slots pc L (.int (iI y) :: .int (iI x) :: st) σ F := by
  obtain ⟨⟨p, l, e, R, s, m, args, below, meth, c⟩, Q, ⟨b, D, c1, c2, c3⟩, out, mc, ms⟩ := X
  intro hF hN H locs ls hl hH hS
  exact lv_iadd hX.1 hX.2.1 d (by rw [iI_add]; exact (K hF hN H locs ls hl hH hS))
theorem sp_isub (hX : pw_Ok X cc own rm nL) {x y : Int} (d : decode cc pc = .ok (.isub, 1)) (K : pw_Sp X cells slots (pc + 1) L (.int (iI (x - y)) :: st) σ F) : pw_Sp X cells slots pc L (.int (iI y) :: .int (iI x) :: st) σ F := by
  obtain ⟨⟨p, l, e, R, s, m, args, below, meth, c⟩, Q, ⟨b, D, c1, c2, c3⟩, out, mc, ms⟩ := X
  intro hF hN H locs ls hl hH hS
  exact lv_isub hX.1 hX.2.1 d (by rw [iI_sub]; exact (K hF hN H locs ls hl hH hS))
theorem sp_imul (hX : pw_Ok X cc own rm nL) {x y : Int} (d : decode cc pc = .ok (.imul, 1)) (K : pw_Sp X cells slots (pc + 1) L (.int (iI (x * y)) :: st) σ F) : pw_Sp X cells slots pc L (.int (iI y) :: .int (iI x) :: st) σ F := by
  obtain ⟨⟨p, l, e, R, s, m, args, below, meth, c⟩, Q, ⟨b, D, c1, c2, c3⟩, out, mc, ms⟩ := X
  intro hF hN H locs ls hl hH hS
  exact lv_imul hX.1 hX.2.1 d (by rw [iI_mul]; exact (K hF hN H locs ls hl hH hS))
theorem sp_iand1 (hX : pw_Ok X cc own rm nL) {x : Int} (d : decode cc pc = .ok (.iand, 1)) (K : pw_Sp X cells slots (pc + 1) L (.int (iI (x % 2)) :: st) σ F) : pw_Sp X cells slots pc L (.int (iI 1) :: .int (iI x) :: st) σ F := by
  obtain ⟨⟨p, l, e, R, s, m, args, below, meth, c⟩, Q, ⟨b, D, c1, c2, c3⟩, out, mc, ms⟩ := X
  intro hF hN H locs ls hl hH hS
  exact lv_iand hX.1 hX.2.1 d (by rw [iI_and1]; exact (K hF hN H locs ls hl hH hS))
theorem sp_iand3 (hX : pw_Ok X cc own rm nL) {x : Int} (d : decode cc pc = .ok (.iand, 1)) (K : pw_Sp X cells slots (pc + 1) L (.int (iI (x % 4)) :: st) σ F) : pw_Sp X cells slots pc L (.int (iI 3) :: .int (iI x) :: st) σ F := by
  obtain ⟨⟨p, l, e, R, s, m, args, below, meth, c⟩, Q, ⟨b, D, c1, c2, c3⟩, out, mc, ms⟩ := X
  intro hF hN H locs ls hl hH hS
  exact lv_iand hX.1 hX.2.1 d (by rw [iI_and3]; exact (K hF hN H locs ls hl hH hS))
theorem sp_iand31 (hX : pw_Ok X cc own rm nL) {x : Int} (d : decode cc pc = .ok (.iand, 1)) (K : pw_Sp X cells slots (pc + 1) L (.int (iI (x % 32)) :: st) σ F) : pw_Sp X cells slots pc L (.int (iI 31) :: .int (iI x) :: st) σ F := by
  obtain ⟨⟨p, l, e, R, s, m, args, below, meth, c⟩, Q, ⟨b, D, c1, c2, c3⟩, out, mc, ms⟩ := X
  intro hF hN H locs ls hl hH hS
  exact lv_iand hX.1 hX.2.1 d (by rw [iI_and31]; exact (K hF hN H locs ls hl hH hS))
theorem sp_ladd (hX : pw_Ok X cc own rm nL) {x y : Int64} (d : decode cc pc = .ok (.ladd, 1)) (K : pw_Sp X cells slots (pc + 1) L (.long (x + y) :: st) σ F) : pw_Sp X cells slots pc L (.long y :: .long x :: st) σ F := by
  obtain ⟨⟨p, l, e, R, s, m, args, below, meth, c⟩, Q, ⟨b, D, c1, c2, c3⟩, out, mc, ms⟩ := X
  intro hF hN H locs ls hl hH hS
  exact lv_ladd hX.1 hX.2.1 d (K hF hN H locs ls hl hH hS)
theorem sp_lmul (hX : pw_Ok X cc own rm nL) {x y : Int64} (d : decode cc pc = .ok (.lmul, 1)) (K : pw_Sp X cells slots (pc + 1) L (.long (x * y) :: st) σ F) : pw_Sp X cells slots pc L (.long y :: .long x :: st) σ F := by
  obtain ⟨⟨p, l, e, R, s, m, args, below, meth, c⟩, Q, ⟨b, D, c1, c2, c3⟩, out, mc, ms⟩ := X
  intro hF hN H locs ls hl hH hS
  exact lv_lmul hX.1 hX.2.1 d (K hF hN H locs ls hl hH hS)
theorem sp_ineg (hX : pw_Ok X cc own rm nL) {x : Int} (d : decode cc pc = .ok (.ineg, 1)) (K : pw_Sp X cells slots (pc + 1) L (.int (iI (-x)) :: st) σ F) : pw_Sp X cells slots pc L (.int (iI x) :: st) σ F := by
  obtain ⟨⟨p, l, e, R, s, m, args, below, meth, c⟩, Q, ⟨b, D, c1, c2, c3⟩, out, mc, ms⟩ := X
  intro hF hN H locs ls hl hH hS
  exact lv_ineg hX.1 hX.2.1 d (by rw [iI_neg]; exact (K hF hN H locs ls hl hH hS))
theorem sp_i2l (hX : pw_Ok X cc own rm nL) {x : Int32} (d : decode cc pc = .ok (.i2l, 1)) (K : pw_Sp X cells slots (pc + 1) L (.long x.toInt64 :: st) σ F) : pw_Sp X cells slots pc L (.int x :: st) σ F := by
  obtain ⟨⟨p, l, e, R, s, m, args, below, meth, c⟩, Q, ⟨b, D, c1, c2, c3⟩, out, mc, ms⟩ := X
  intro hF hN H locs ls hl hH hS
  exact lv_i2l hX.1 hX.2.1 d rfl (K hF hN H locs ls hl hH hS)
theorem sp_lcmp (hX : pw_Ok X cc own rm nL) {x y : Int64} (d : decode cc pc = .ok (.lcmp, 1)) (K : pw_Sp X cells slots (pc + 1) L (.int (lg_cmp x y) :: st) σ F) : pw_Sp X cells slots pc L (.long y :: .long x :: st) σ F := by
  obtain ⟨⟨p, l, e, R, s, m, args, below, meth, c⟩, Q, ⟨b, D, c1, c2, c3⟩, out, mc, ms⟩ := X
  intro hF hN H locs ls hl hH hS
  exact W.lcmp hX.1 hX.2.1 d (K hF hN H locs ls hl hH hS)
theorem sp_dup (hX : pw_Ok X cc own rm nL) {v : Value} (hv : v.category = 1) (d : decode cc pc = .ok (.dup, 1)) (K : pw_Sp X cells slots (pc + 1) L (v :: v :: st) σ F) : pw_Sp X cells slots pc L (v :: st) σ F := by
  obtain ⟨⟨p, l, e, R, s, m, args, below, meth, c⟩, Q, ⟨b, D, c1, c2, c3⟩, out, mc, ms⟩ := X
  intro hF hN H locs ls hl hH hS
  exact lv_dup hX.1 hX.2.1 d (by rw [pw_tr_cat]; exact hv) (K hF hN H locs ls hl hH hS)
theorem sp_dup2 (hX : pw_Ok X cc own rm nL) {v w : Value} (hv : v.category = 1) (hw : w.category = 1) (d : decode cc pc = .ok (.dup2, 1)) (K : pw_Sp X cells slots (pc + 1) L (v :: w :: v :: w :: st) σ F) : pw_Sp X cells slots pc L (v :: w :: st) σ F := by
  obtain ⟨⟨p, l, e, R, s, m, args, below, meth, c⟩, Q, ⟨b, D, c1, c2, c3⟩, out, mc, ms⟩ := X
  intro hF hN H locs ls hl hH hS
  exact lv_dup2_11 hX.1 hX.2.1 d (by rw [pw_tr_cat]; exact hv) (by rw [pw_tr_cat]; exact hw) (K hF hN H locs ls hl hH hS)
theorem sp_pop (hX : pw_Ok X cc own rm nL) {v : Value} (hv : v.category = 1) (d : decode cc pc = .ok (.pop, 1)) (K : pw_Sp X cells slots (pc + 1) L (st) σ F) : pw_Sp X cells slots pc L (v :: st) σ F := by
  obtain ⟨⟨p, l, e, R, s, m, args, below, meth, c⟩, Q, ⟨b, D, c1, c2, c3⟩, out, mc, ms⟩ := X
  intro hF hN H locs ls hl hH hS
  exact lv_pop hX.1 hX.2.1 d (by rw [pw_tr_cat]; exact hv) (K hF hN H locs ls hl hH hS)
theorem sp_goto (hX : pw_Ok X cc own rm nL) {off : Int} (tgt : Nat) (ht : (pc : Int) + off = (tgt : Int)) (d : decode cc pc = .ok (.goto off, 3)) (K : pw_Sp X cells slots tgt L st σ F) : pw_Sp X cells slots pc L st σ F := by
  obtain ⟨⟨p, l, e, R, s, m, args, below, meth, c⟩, Q, ⟨b, D, c1, c2, c3⟩, out, mc, ms⟩ := X
  intro hF hN H locs ls hl hH hS
  exact lv_goto hX.1 hX.2.1 d ht (K hF hN H locs ls hl hH hS)
def pw_rem (x y : Int) : Option Int := if pw_R x ∧ pw_R y ∧ 0 < y then some (x.tmod y) else none
def pw_shr (x : Int) : Option Int := if 0 ≤ x ∧ x ≤ 2147483647 then some (x / 2) else none
theorem sp_irem (hX : pw_Ok X cc own rm nL) {x y : Int} {g : Int → Option (α × pw_Sto)} (d : decode cc pc = .ok (.irem, 1)) (K : ∀ v, pw_Sp X cells slots (pc + 1) L (.int (iI v) :: st) σ (g v)) : pw_Sp X cells slots pc L (.int (iI y) :: .int (iI x) :: st) σ ((pw_rem x y).bind g) := by
  obtain ⟨⟨p, l, e, R, s, m, args, below, meth, c⟩, Q, ⟨b, D, c1, c2, c3⟩, out, mc, ms⟩ := X
  intro hF hN H locs ls hl hH hS
  by_cases h : pw_R x ∧ pw_R y ∧ 0 < y
  · rw [pw_rem, if_pos h] at hF
    refine lv_irem hX.1 hX.2.1 d (fun q => ?_) (by rw [iI_rem h.1 h.2.1 h.2.2]; exact K _ hF hN H locs ls hl hH hS)
    have := (iI_eq (x := y) (y := 0) h.2.1 (by omega)).mp q
    omega
  · rw [pw_rem, if_neg h] at hF; cases hF
theorem sp_ishr (hX : pw_Ok X cc own rm nL) {x : Int} {g : Int → Option (α × pw_Sto)} (d : decode cc pc = .ok (.ishr, 1)) (K : ∀ v, pw_Sp X cells slots (pc + 1) L (.int (iI v) :: st) σ (g v)) : pw_Sp X cells slots pc L (.int (iI 1) :: .int (iI x) :: st) σ ((pw_shr x).bind g) := by
  obtain ⟨⟨p, l, e, R, s, m, args, below, meth, c⟩, Q, ⟨b, D, c1, c2, c3⟩, out, mc, ms⟩ := X
  intro hF hN H locs ls hl hH hS
  by_cases h : 0 ≤ x ∧ x ≤ 2147483647
  · rw [pw_shr, if_pos h] at hF
    exact lv_ishr hX.1 hX.2.1 d (by rw [iI_shr1 h]; exact K _ hF hN H locs ls hl hH hS)
  · rw [pw_shr, if_neg h] at hF; cases hF
theorem sp_if_eq (hX : pw_Ok X cc own rm nL) {x : Int} {off : Int} (tgt : Nat) {G1 G2 : Option (α × pw_Sto)} (ht : (pc : Int) + off = (tgt : Int)) (d : decode cc pc = .ok (.ifCond .eq off, 3)) (K1 : x = 0 → pw_Sp X cells slots tgt L st σ G1) (K2 : ¬ x = 0 → pw_Sp X cells slots (pc + 3) L st σ G2) : pw_Sp X cells slots pc L (.int (iI x) :: st) σ (pw_ck x 0 (if x = 0 then G1 else G2)) := by
  obtain ⟨⟨p, l, e, R, s, m, args, below, meth, c⟩, Q, ⟨b, D, c1, c2, c3⟩, out, mc, ms⟩ := X
  intro hF hN H locs ls hl hH hS
  by_cases hr : pw_R x ∧ pw_R 0
  · rw [pw_ck, if_pos hr] at hF
    have hiff := (iI_eq (x := x) (y := 0) hr.1 ⟨by omega, by omega⟩)
    refine lv_if_eq hX.1 hX.2.1 d ht (fun h => ?_) (fun h => ?_)
    · have h := hiff.mp h
      rw [if_pos h] at hF; exact K1 h hF hN H locs ls hl hH hS
    · have h := mt hiff.mpr h
      rw [if_neg h] at hF; exact K2 h hF hN H locs ls hl hH hS
  · rw [pw_ck, if_neg hr] at hF; cases hF
theorem sp_icmp_eq (hX : pw_Ok X cc own rm nL) {x y : Int} {off : Int} (tgt : Nat) {G1 G2 : Option (α × pw_Sto)} (ht : (pc : Int) + off = (tgt : Int)) (d : decode cc pc = .ok (.if_icmp .eq off, 3)) (K1 : x = y → pw_Sp X cells slots tgt L st σ G1) (K2 : ¬ x = y → pw_Sp X cells slots (pc + 3) L st σ G2) : pw_Sp X cells slots pc L (.int (iI y) :: .int (iI x) :: st) σ (pw_ck x y (if x = y then G1 else G2)) := by
  obtain ⟨⟨p, l, e, R, s, m, args, below, meth, c⟩, Q, ⟨b, D, c1, c2, c3⟩, out, mc, ms⟩ := X
  intro hF hN H locs ls hl hH hS
  by_cases hr : pw_R x ∧ pw_R y
  · rw [pw_ck, if_pos hr] at hF
    have hiff := (iI_eq (x := x) (y := y) hr.1 hr.2)
    refine lv_icmp_eq hX.1 hX.2.1 d ht (fun h => ?_) (fun h => ?_)
    · have h := hiff.mp h
      rw [if_pos h] at hF; exact K1 h hF hN H locs ls hl hH hS
    · have h := mt hiff.mpr h
      rw [if_neg h] at hF; exact K2 h hF hN H locs ls hl hH hS
  · rw [pw_ck, if_neg hr] at hF; cases hF
theorem sp_if_ne (hX : pw_Ok X cc own rm nL) {x : Int} {off : Int} (tgt : Nat) {G1 G2 : Option (α × pw_Sto)} (ht : (pc : Int) + off = (tgt : Int)) (d : decode cc pc = .ok (.ifCond .ne off, 3)) (K2 : x = 0 → pw_Sp X cells slots (pc + 3) L st σ G2) (K1 : ¬ x = 0 → pw_Sp X cells slots tgt L st σ G1) : pw_Sp X cells slots pc L (.int (iI x) :: st) σ (pw_ck x 0 (if x = 0 then G2 else G1)) := by
  obtain ⟨⟨p, l, e, R, s, m, args, below, meth, c⟩, Q, ⟨b, D, c1, c2, c3⟩, out, mc, ms⟩ := X
  intro hF hN H locs ls hl hH hS
  by_cases hr : pw_R x ∧ pw_R 0
  · rw [pw_ck, if_pos hr] at hF
    have hiff := (iI_eq (x := x) (y := 0) hr.1 ⟨by omega, by omega⟩)
    refine lv_if_ne hX.1 hX.2.1 d ht (fun h => ?_) (fun h => ?_)
    · have h := mt hiff.mpr h
      rw [if_neg h] at hF; exact K1 h hF hN H locs ls hl hH hS
    · have h := hiff.mp h
      rw [if_pos h] at hF; exact K2 h hF hN H locs ls hl hH hS
  · rw [pw_ck, if_neg hr] at hF; cases hF
theorem sp_icmp_ne (hX : pw_Ok X cc own rm nL) {x y : Int} {off : Int} (tgt : Nat) {G1 G2 : Option (α × pw_Sto)} (ht : (pc : Int) + off = (tgt : Int)) (d : decode cc pc = .ok (.if_icmp .ne off, 3)) (K2 : x = y → pw_Sp X cells slots (pc + 3) L st σ G2) (K1 : ¬ x = y → pw_Sp X cells slots tgt L st σ G1) : pw_Sp X cells slots pc L (.int (iI y) :: .int (iI x) :: st) σ (pw_ck x y (if x = y then G2 else G1)) := by
  obtain ⟨⟨p, l, e, R, s, m, args, below, meth, c⟩, Q, ⟨b, D, c1, c2, c3⟩, out, mc, ms⟩ := X
  intro hF hN H locs ls hl hH hS
  by_cases hr : pw_R x ∧ pw_R y
  · rw [pw_ck, if_pos hr] at hF
    have hiff := (iI_eq (x := x) (y := y) hr.1 hr.2)
    refine lv_icmp_ne hX.1 hX.2.1 d ht (fun h => ?_) (fun h => ?_)
    · have h := mt hiff.mpr h
      rw [if_neg h] at hF; exact K1 h hF hN H locs ls hl hH hS
    · have h := hiff.mp h
      rw [if_pos h] at hF; exact K2 h hF hN H locs ls hl hH hS
  · rw [pw_ck, if_neg hr] at hF; cases hF
theorem sp_if_lt (hX : pw_Ok X cc own rm nL) {x : Int} {off : Int} (tgt : Nat) {G1 G2 : Option (α × pw_Sto)} (ht : (pc : Int) + off = (tgt : Int)) (d : decode cc pc = .ok (.ifCond .lt off, 3)) (K1 : x < 0 → pw_Sp X cells slots tgt L st σ G1) (K2 : ¬ x < 0 → pw_Sp X cells slots (pc + 3) L st σ G2) : pw_Sp X cells slots pc L (.int (iI x) :: st) σ (pw_ck x 0 (if x < 0 then G1 else G2)) := by
  obtain ⟨⟨p, l, e, R, s, m, args, below, meth, c⟩, Q, ⟨b, D, c1, c2, c3⟩, out, mc, ms⟩ := X
  intro hF hN H locs ls hl hH hS
  by_cases hr : pw_R x ∧ pw_R 0
  · rw [pw_ck, if_pos hr] at hF
    have hiff := (iI_lt (x := x) (y := 0) hr.1 ⟨by omega, by omega⟩)
    refine lv_if_lt hX.1 hX.2.1 d ht (fun h => ?_) (fun h => ?_)
    · have h := hiff.mp h
      rw [if_pos h] at hF; exact K1 h hF hN H locs ls hl hH hS
    · have h := mt hiff.mpr h
      rw [if_neg h] at hF; exact K2 h hF hN H locs ls hl hH hS
  · rw [pw_ck, if_neg hr] at hF; cases hF
theorem sp_icmp_lt (hX : pw_Ok X cc own rm nL) {x y : Int} {off : Int} (tgt : Nat) {G1 G2 : Option (α × pw_Sto)} (ht : (pc : Int) + off = (tgt : Int)) (d : decode cc pc = .ok (.if_icmp .lt off, 3)) (K1 : x < y → pw_Sp X cells slots tgt L st σ G1) (K2 : ¬ x < y → pw_Sp X cells slots (pc + 3) L st σ G2) : pw_Sp X cells slots pc L (.int (iI y) :: .int (iI x) :: st) σ (pw_ck x y (if x < y then G1 else G2)) := by
  obtain ⟨⟨p, l, e, R, s, m, args, below, meth, c⟩, Q, ⟨b, D, c1, c2, c3⟩, out, mc, ms⟩ := X
  intro hF hN H locs ls hl hH hS
  by_cases hr : pw_R x ∧ pw_R y
  · rw [pw_ck, if_pos hr] at hF
    have hiff := (iI_lt (x := x) (y := y) hr.1 hr.2)
    refine lv_icmp_lt hX.1 hX.2.1 d ht (fun h => ?_) (fun h => ?_)
    · have h := hiff.mp h
      rw [if_pos h] at hF; exact K1 h hF hN H locs ls hl hH hS
    · have h := mt hiff.mpr h
      rw [if_neg h] at hF; exact K2 h hF hN H locs ls hl hH hS
  · rw [pw_ck, if_neg hr] at hF; cases hF
theorem sp_if_ge (hX : pw_Ok X cc own rm nL) {x : Int} {off : Int} (tgt : Nat) {G1 G2 : Option (α × pw_Sto)} (ht : (pc : Int) + off = (tgt : Int)) (d : decode cc pc = .ok (.ifCond .ge off, 3)) (K1 : 0 ≤ x → pw_Sp X cells slots tgt L st σ G1) (K2 : ¬ 0 ≤ x → pw_Sp X cells slots (pc + 3) L st σ G2) : pw_Sp X cells slots pc L (.int (iI x) :: st) σ (pw_ck x 0 (if 0 ≤ x then G1 else G2)) := by
  obtain ⟨⟨p, l, e, R, s, m, args, below, meth, c⟩, Q, ⟨b, D, c1, c2, c3⟩, out, mc, ms⟩ := X
  intro hF hN H locs ls hl hH hS
  by_cases hr : pw_R x ∧ pw_R 0
  · rw [pw_ck, if_pos hr] at hF
    have hiff := (iI_le (x := 0) (y := x) ⟨by omega, by omega⟩ hr.1)
    refine lv_if_ge hX.1 hX.2.1 d ht (fun h => ?_) (fun h => ?_)
    · have h := hiff.mp h
      rw [if_pos h] at hF; exact K1 h hF hN H locs ls hl hH hS
    · have h := mt hiff.mpr h
      rw [if_neg h] at hF; exact K2 h hF hN H locs ls hl hH hS
  · rw [pw_ck, if_neg hr] at hF; cases hF
theorem sp_icmp_ge (hX : pw_Ok X cc own rm nL) {x y : Int} {off : Int} (tgt : Nat) {G1 G2 : Option (α × pw_Sto)} (ht : (pc : Int) + off = (tgt : Int)) (d : decode cc pc = .ok (.if_icmp .ge off, 3)) (K1 : y ≤ x → pw_Sp X cells slots tgt L st σ G1) (K2 : ¬ y ≤ x → pw_Sp X cells slots (pc + 3) L st σ G2) : pw_Sp X cells slots pc L (.int (iI y) :: .int (iI x) :: st) σ (pw_ck x y (if y ≤ x then G1 else G2)) := by
  obtain ⟨⟨p, l, e, R, s, m, args, below, meth, c⟩, Q, ⟨b, D, c1, c2, c3⟩, out, mc, ms⟩ := X
  intro hF hN H locs ls hl hH hS
  by_cases hr : pw_R x ∧ pw_R y
  · rw [pw_ck, if_pos hr] at hF
    have hiff := (iI_le (x := y) (y := x) hr.2 hr.1)
    refine lv_icmp_ge hX.1 hX.2.1 d ht (fun h => ?_) (fun h => ?_)
    · have h := hiff.mp h
      rw [if_pos h] at hF; exact K1 h hF hN H locs ls hl hH hS
    · have h := mt hiff.mpr h
      rw [if_neg h] at hF; exact K2 h hF hN H locs ls hl hH hS
  · rw [pw_ck, if_neg hr] at hF; cases hF
theorem sp_if_gt (hX : pw_Ok X cc own rm nL) {x : Int} {off : Int} (tgt : Nat) {G1 G2 : Option (α × pw_Sto)} (ht : (pc : Int) + off = (tgt : Int)) (d : decode cc pc = .ok (.ifCond .gt off, 3)) (K1 : 0 < x → pw_Sp X cells slots tgt L st σ G1) (K2 : ¬ 0 < x → pw_Sp X cells slots (pc + 3) L st σ G2) : pw_Sp X cells slots pc L (.int (iI x) :: st) σ (pw_ck x 0 (if 0 < x then G1 else G2)) := by
  obtain ⟨⟨p, l, e, R, s, m, args, below, meth, c⟩, Q, ⟨b, D, c1, c2, c3⟩, out, mc, ms⟩ := X
  intro hF hN H locs ls hl hH hS
  by_cases hr : pw_R x ∧ pw_R 0
  · rw [pw_ck, if_pos hr] at hF
    have hiff := (iI_lt (x := 0) (y := x) ⟨by omega, by omega⟩ hr.1)
    refine lv_if_gt hX.1 hX.2.1 d ht (fun h => ?_) (fun h => ?_)
    · have h := hiff.mp h
      rw [if_pos h] at hF; exact K1 h hF hN H locs ls hl hH hS
    · have h := mt hiff.mpr h
      rw [if_neg h] at hF; exact K2 h hF hN H locs ls hl hH hS
  · rw [pw_ck, if_neg hr] at hF; cases hF
theorem sp_icmp_gt (hX : pw_Ok X cc own rm nL) {x y : Int} {off : Int} (tgt : Nat) {G1 G2 : Option (α × pw_Sto)} (ht : (pc : Int) + off = (tgt : Int)) (d : decode cc pc = .ok (.if_icmp .gt off, 3)) (K1 : y < x → pw_Sp X cells slots tgt L st σ G1) (K2 : ¬ y < x → pw_Sp X cells slots (pc + 3) L st σ G2) : pw_Sp X cells slots pc L (.int (iI y) :: .int (iI x) :: st) σ (pw_ck x y (if y < x then G1 else G2)) := by
  obtain ⟨⟨p, l, e, R, s, m, args, below, meth, c⟩, Q, ⟨b, D, c1, c2, c3⟩, out, mc, ms⟩ := X
  intro hF hN H locs ls hl hH hS
  by_cases hr : pw_R x ∧ pw_R y
  · rw [pw_ck, if_pos hr] at hF
    have hiff := (iI_lt (x := y) (y := x) hr.2 hr.1)
    refine lv_icmp_gt hX.1 hX.2.1 d ht (fun h => ?_) (fun h => ?_)
    · have h := hiff.mp h
      rw [if_pos h] at hF; exact K1 h hF hN H locs ls hl hH hS
    · have h := mt hiff.mpr h
      rw [if_neg h] at hF; exact K2 h hF hN H locs ls hl hH hS
  · rw [pw_ck, if_neg hr] at hF; cases hF
theorem sp_if_le (hX : pw_Ok X cc own rm nL) {x : Int} {off : Int} (tgt : Nat) {G1 G2 : Option (α × pw_Sto)} (ht : (pc : Int) + off = (tgt : Int)) (d : decode cc pc = .ok (.ifCond .le off, 3)) (K1 : x ≤ 0 → pw_Sp X cells slots tgt L st σ G1) (K2 : ¬ x ≤ 0 → pw_Sp X cells slots (pc + 3) L st σ G2) : pw_Sp X cells slots pc L (.int (iI x) :: st) σ (pw_ck x 0 (if x ≤ 0 then G1 else G2)) := by
  obtain ⟨⟨p, l, e, R, s, m, args, below, meth, c⟩, Q, ⟨b, D, c1, c2, c3⟩, out, mc, ms⟩ := X
  intro hF hN H locs ls hl hH hS
  by_cases hr : pw_R x ∧ pw_R 0
  · rw [pw_ck, if_pos hr] at hF
    have hiff := (iI_le (x := x) (y := 0) hr.1 ⟨by omega, by omega⟩)
    refine lv_if_le hX.1 hX.2.1 d ht (fun h => ?_) (fun h => ?_)
    · have h := hiff.mp h
      rw [if_pos h] at hF; exact K1 h hF hN H locs ls hl hH hS
    · have h := mt hiff.mpr h
      rw [if_neg h] at hF; exact K2 h hF hN H locs ls hl hH hS
  · rw [pw_ck, if_neg hr] at hF; cases hF
theorem sp_icmp_le (hX : pw_Ok X cc own rm nL) {x y : Int} {off : Int} (tgt : Nat) {G1 G2 : Option (α × pw_Sto)} (ht : (pc : Int) + off = (tgt : Int)) (d : decode cc pc = .ok (.if_icmp .le off, 3)) (K1 : x ≤ y → pw_Sp X cells slots tgt L st σ G1) (K2 : ¬ x ≤ y → pw_Sp X cells slots (pc + 3) L st σ G2) : pw_Sp X cells slots pc L (.int (iI y) :: .int (iI x) :: st) σ (pw_ck x y (if x ≤ y then G1 else G2)) := by
  obtain ⟨⟨p, l, e, R, s, m, args, below, meth, c⟩, Q, ⟨b, D, c1, c2, c3⟩, out, mc, ms⟩ := X
  intro hF hN H locs ls hl hH hS
  by_cases hr : pw_R x ∧ pw_R y
  · rw [pw_ck, if_pos hr] at hF
    have hiff := (iI_le (x := x) (y := y) hr.1 hr.2)
    refine lv_icmp_le hX.1 hX.2.1 d ht (fun h => ?_) (fun h => ?_)
    · have h := hiff.mp h
      rw [if_pos h] at hF; exact K1 h hF hN H locs ls hl hH hS
    · have h := mt hiff.mpr h
      rw [if_neg h] at hF; exact K2 h hF hN H locs ls hl hH hS
  · rw [pw_ck, if_neg hr] at hF; cases hF
theorem sp_sub (ks : List Nat) (hL : lv_pick L ks = L') (K : pw_Sp X cells slots pc L' st σ F) : pw_Sp X cells slots pc L st σ F := by
  intro hF hN H locs ls hl hH hS
  refine K hF hN H locs ls (lv_sub hl ks ?_) hH hS
  rw [← hL]
  unfold lv_pick
  rw [List.map_filterMap]
  congr 1
  funext k
  rw [List.getElem?_map]
end PWR
end
section
/-! ## reading and writing the store -/
def pw_is (σ : pw_Sto) (o c : Nat) : Prop := o < σ.1 ∧ (pw_sh o).1 = c
theorem pw_is_dec (σ : pw_Sto) (o c : Nat) : Nonempty (Decidable (pw_is σ o c)) := ⟨inferInstanceAs (Decidable (o < σ.1 ∧ (pw_sh o).1 = c))⟩
def pw_gi (c o k : Nat) (σ : pw_Sto) : Option Int := if o < σ.1 ∧ (pw_sh o).1 = c then some (σ.2.1 o k) else none
def pw_gr (c o k : Nat) (σ : pw_Sto) : Option Nat := if o < σ.1 ∧ (pw_sh o).1 = c then σ.2.2 o k else none
def pw_pi (c o k : Nat) (v : Int) (σ : pw_Sto) : Option pw_Sto := if o < σ.1 ∧ (pw_sh o).1 = c then some (σ.1, pw_u2 σ.2.1 o k v, σ.2.2) else none
def pw_pr (c o k : Nat) (v : Nat) (σ : pw_Sto) : Option pw_Sto := if o < σ.1 ∧ (pw_sh o).1 = c then some (σ.1, σ.2.1, pw_u2 σ.2.2 o k (some v)) else none
def pw_ai (a : Nat) (i : Int) (σ : pw_Sto) : Option Int := if (a < σ.1 ∧ (pw_sh a).1 = 11) ∧ (0 ≤ i ∧ i < (pw_sh a).2) then some (σ.2.1 a i.toNat) else none
def pw_ar (c a : Nat) (i : Int) (σ : pw_Sto) : Option Nat := if (a < σ.1 ∧ (pw_sh a).1 = c) ∧ (0 ≤ i ∧ i < (pw_sh a).2) then σ.2.2 a i.toNat else none
def pw_si (a : Nat) (i v : Int) (σ : pw_Sto) : Option pw_Sto := if (a < σ.1 ∧ (pw_sh a).1 = 11) ∧ (0 ≤ i ∧ i < (pw_sh a).2) then some (σ.1, pw_u2 σ.2.1 a i.toNat v, σ.2.2) else none
def pw_sr (c a : Nat) (i : Int) (d v : Nat) (σ : pw_Sto) : Option pw_Sto := if ((a < σ.1 ∧ (pw_sh a).1 = c) ∧ (0 ≤ i ∧ i < (pw_sh a).2)) ∧ (v < σ.1 ∧ (pw_sh v).1 = d) then some (σ.1, σ.2.1, pw_u2 σ.2.2 a i.toNat (some v)) else none
def pw_al (a : Nat) (σ : pw_Sto) : Option Int := if a < σ.1 ∧ (pw_sh a).1 = 11 then some ((pw_sh a).2 : Int) else none
def pw_cp (a : Nat) (i : Int) (d : Nat) (j n : Int) (σ : pw_Sto) : Option pw_Sto :=
  if ((a < σ.1 ∧ (pw_sh a).1 = 11) ∧ (d < σ.1 ∧ (pw_sh d).1 = 11)) ∧ ((0 ≤ i ∧ 0 ≤ j ∧ 0 ≤ n) ∧ (i + n ≤ (pw_sh a).2 ∧ j + n ≤ (pw_sh d).2)) then
    some (σ.1, (fun q => if q = d then va_cpy (σ.2.1 a) (σ.2.1 d) i.toNat j.toNat n.toNat else σ.2.1 q), σ.2.2) else none
theorem pw_sh_le (i : Nat) : (pw_sh i).2 ≤ 344 := by
  have h : ∀ q ∈ pw_shT, q.2 ≤ 344 := by decide +kernel
  unfold pw_sh
  rw [List.getD_eq_getElem?_getD]
  cases hi : pw_shT[i]? with
  | none => exact Nat.zero_le _
  | some q => exact h q (List.mem_of_getElem? hi)
def pw_gd {β : Type} (c o : Nat) (σ : pw_Sto) (F : Option β) : Option β := if o < σ.1 ∧ (pw_sh o).1 = c then F else none
theorem pw_cell_o {E : pw_E} {σ : pw_Sto} {o c : Nat} (h : (pw_sh o).1 = c) (h1 : c < 11) : pw_cell E σ o = .inr (c, pw_flds E.1 σ o (pw_ft c)) := by
  unfold pw_cell
  rw [h, if_neg (by omega), if_neg (by omega), if_neg (by omega)]
theorem pw_cell_i {E : pw_E} {σ : pw_Sto} {o : Nat} (h : (pw_sh o).1 = 11) : pw_cell E σ o = .inl (E.2.2.1, (pw_sh o).2, .inl (fun k => iI (σ.2.1 o k))) := by
  unfold pw_cell
  rw [if_pos h]
theorem pw_cell_s {E : pw_E} {σ : pw_Sto} {o : Nat} (h : (pw_sh o).1 = 12) : pw_cell E σ o = .inl (E.2.2.2.1, (pw_sh o).2, .inr (.inr (.inr (.inr (fun k => (σ.2.2 o k).map (fun j => E.1 + j)))))) := by
  unfold pw_cell
  rw [if_neg (by omega), if_pos h]
theorem pw_cell_g {E : pw_E} {σ : pw_Sto} {o : Nat} (h : (pw_sh o).1 = 13) : pw_cell E σ o = .inl (E.2.2.2.2, (pw_sh o).2, .inr (.inr (.inr (.inr (fun k => (σ.2.2 o k).map (fun j => E.1 + j)))))) := by
  unfold pw_cell
  rw [if_neg (by omega), if_neg (by omega), if_pos h]
theorem pw_flds_at {b : Nat} {σ : pw_Sto} {o k : Nat} {t : List Bool} {i : Bool} (h : t[k]? = some i) : (pw_flds b σ o t)[k]? = some (pw_fld b σ o i k) := by
  unfold pw_flds
  rw [List.getElem?_mapIdx, h]
  rfl
theorem pw_cell_ne {E : pw_E} {σ σ' : pw_Sto} {j : Nat} (h1 : σ'.2.1 j = σ.2.1 j) (h2 : σ'.2.2 j = σ.2.2 j) : pw_cell E σ' j = pw_cell E σ j := by
  unfold pw_cell
  rw [h1, h2]
  have hf : pw_flds E.1 σ' j (pw_ft (pw_sh j).1) = pw_flds E.1 σ j (pw_ft (pw_sh j).1) := by
    unfold pw_flds
    congr 1
    funext k i
    unfold pw_fld
    rw [h1, h2]
  rw [hf]
theorem pw_u2_ne {β : Type} {f : Nat → Nat → β} {o k j : Nat} {v : β} (h : j ≠ o) : pw_u2 f o k v j = f j := if_neg h
theorem pw_u2_eq {β : Type} {f : Nat → Nat → β} {o k : Nat} {v : β} : pw_u2 f o k v o = (fun j => if j = k then v else f o j) := if_pos rfl
theorem pw_u2_at {β : Type} {f : Nat → Nat → β} {o k j : Nat} {v : β} : pw_u2 f o k v o j = if j = k then v else f o j := by unfold pw_u2; rw [if_pos rfl]
theorem pw_flds_set {b : Nat} {σ σ' : pw_Sto} {o k : Nat} {t : List Bool} {v : Value} (h : ∀ j i, j ≠ k → pw_fld b σ' o i j = pw_fld b σ o i j) (hk : ∀ i, t[k]? = some i → pw_fld b σ' o i k = v) : (pw_flds b σ o t).set k v = pw_flds b σ' o t := by
  apply List.ext_getElem?
  intro j
  by_cases hj : j = k
  · subst hj
    unfold pw_flds
    cases hi : t[j]? with
    | none =>
      rw [List.getElem?_mapIdx, hi, List.getElem?_eq_none]
      · rfl
      · rw [List.length_set, List.length_mapIdx]
        exact List.getElem?_eq_none_iff.mp hi
    | some i =>
      have hl : j < t.length := (List.getElem?_eq_some_iff.mp hi).1
      rw [List.getElem?_set_self (by rw [List.length_mapIdx]; exact hl), List.getElem?_mapIdx, hi]
      show some v = some (pw_fld b σ' o i j)
      rw [hk i hi]
  · rw [List.getElem?_set_ne (Ne.symm hj)]
    unfold pw_flds
    rw [List.getElem?_mapIdx, List.getElem?_mapIdx]
    cases hi : t[j]? with
    | none => rfl
    | some i =>
      show some (pw_fld b σ o i j) = some (pw_fld b σ' o i j)
      rw [h j i hj]
/-- what is known of a class: its place, its words, its fields' types -/
def pw_Cl (ci : Nat) (C : String) (T : u_T) (N : Nat) (Y : Nat → FieldType) : Prop := pw_cl[ci]? = some (C, T, N) ∧ ci < 11 ∧ (∀ w ∈ u_ws C T N, w ∈ pw_gt) ∧ (∀ k, k < N → parseFieldDescriptor (T k).2.2.1 = some (Y k)) ∧ (∀ a, a < N → ∀ b, b < N → a ≠ b → (T a).2.1 ≠ (T b).2.1) ∧ (pw_ft ci).length = N
section PWH
variable {α : Type} {X : pw_X α} {cc : ByteArray} {own : String} {rm : Room} {nL cells slots pc : Nat} {L L' : List (Nat × Value)} {st : List Value} {σ : pw_Sto} {F : Option (α × pw_Sto)}
variable {ci o k idx : Nat} {C ref host : String} {T : u_T} {N : Nat} {Y : Nat → FieldType}
theorem sp_getI (hX : pw_Ok X cc own rm nL) (hC : pw_Cl ci C T N Y) (hk : k < N) (hw : Cond.fieldLink own idx (T k).1 (T k).2.1 (T k).2.2.1 ∈ pw_gt) (hi : (pw_ft ci)[k]? = some true) (d : decode cc pc = .ok (.getfield idx, 3)) {g : Int → Option (α × pw_Sto)} (K : ∀ v, pw_Sp X cells slots (pc + 3) L (.int (iI v) :: st) σ (g v)) : pw_Sp X cells slots pc L (.ref o :: st) σ ((pw_gi ci o k σ).bind g) := by
  obtain ⟨⟨p, l, e, R, s, m, args, below, meth, c⟩, Q, ⟨b, D, c1, c2, c3⟩, out, mc, ms⟩ := X
  intro hF hN H locs ls hl hH hS
  by_cases h : o < σ.1 ∧ (pw_sh o).1 = ci
  · rw [pw_gi, if_pos h] at hF
    exact va_get (D := D) (cl := pw_cl) hX.1 hX.2.1 (Ts := pw_gt) hX.2.2.2.2.2.1 hC.2.2.1 hX.2.2.2.2.1 hX.2.2.2.2.2.2.1.1 hH o (by rw [pw_ws_at h.1, pw_cell_o h.2 hC.2.1]) hC.1 k hk (hX.2.2.2.2.2.1 _ hw) (fun _ h9 => h9) (pw_flds_at hi) d (K _ hF hN H locs ls hl hH hS)
  · rw [pw_gi, if_neg h] at hF; cases hF
theorem sp_getIN (hX : pw_Ok X cc own rm nL) (hC : pw_Cl ci C T N Y) (hk : k < N) (hw : Cond.fieldLinkNest own idx (T k).1 (T k).2.1 (T k).2.2.1 host ∈ pw_nest) (hi : (pw_ft ci)[k]? = some true) (d : decode cc pc = .ok (.getfield idx, 3)) {g : Int → Option (α × pw_Sto)} (K : ∀ v, pw_Sp X cells slots (pc + 3) L (.int (iI v) :: st) σ (g v)) : pw_Sp X cells slots pc L (.ref o :: st) σ ((pw_gi ci o k σ).bind g) := by
  obtain ⟨⟨p, l, e, R, s, m, args, below, meth, c⟩, Q, ⟨b, D, c1, c2, c3⟩, out, mc, ms⟩ := X
  intro hF hN H locs ls hl hH hS
  by_cases h : o < σ.1 ∧ (pw_sh o).1 = ci
  · rw [pw_gi, if_pos h] at hF
    exact va_getN (D := D) (cl := pw_cl) hX.1 hX.2.1 (Ts := pw_gt) hX.2.2.2.2.2.1 hC.2.2.1 hX.2.2.2.2.1 hX.2.2.2.2.2.2.1.1 hH o (by rw [pw_ws_at h.1, pw_cell_o h.2 hC.2.1]) hC.1 k hk (va_Nw.use rfl (hX.2.2.2.2.2.2.1.2 _ hw)) (fun _ h9 => h9) (pw_flds_at hi) d (K _ hF hN H locs ls hl hH hS)
  · rw [pw_gi, if_neg h] at hF; cases hF
theorem sp_getR (hX : pw_Ok X cc own rm nL) (hC : pw_Cl ci C T N Y) (hk : k < N) (hw : Cond.fieldLink own idx (T k).1 (T k).2.1 (T k).2.2.1 ∈ pw_gt) (hi : (pw_ft ci)[k]? = some false) (d : decode cc pc = .ok (.getfield idx, 3)) {g : Nat → Option (α × pw_Sto)} (K : ∀ v, pw_Sp X cells slots (pc + 3) L (.ref v :: st) σ (g v)) : pw_Sp X cells slots pc L (.ref o :: st) σ ((pw_gr ci o k σ).bind g) := by
  obtain ⟨⟨p, l, e, R, s, m, args, below, meth, c⟩, Q, ⟨b, D, c1, c2, c3⟩, out, mc, ms⟩ := X
  intro hF hN H locs ls hl hH hS
  by_cases h : o < σ.1 ∧ (pw_sh o).1 = ci
  · rw [pw_gr, if_pos h] at hF
    cases hv : σ.2.2 o k with
    | none => rw [hv] at hF; cases hF
    | some v =>
      rw [hv] at hF
      refine va_get (D := D) (cl := pw_cl) (v := .ref (b + v)) hX.1 hX.2.1 (Ts := pw_gt) hX.2.2.2.2.2.1 hC.2.2.1 hX.2.2.2.2.1 hX.2.2.2.2.2.2.1.1 hH o (by rw [pw_ws_at h.1, pw_cell_o h.2 hC.2.1]) hC.1 k hk (hX.2.2.2.2.2.1 _ hw) (fun _ h9 => h9) ?_ d (K v hF hN H locs ls hl hH hS)
      rw [pw_flds_at hi]
      unfold pw_fld
      rw [hv]
      rfl
  · rw [pw_gr, if_neg h] at hF; cases hF
theorem sp_getRN (hX : pw_Ok X cc own rm nL) (hC : pw_Cl ci C T N Y) (hk : k < N) (hw : Cond.fieldLinkNest own idx (T k).1 (T k).2.1 (T k).2.2.1 host ∈ pw_nest) (hi : (pw_ft ci)[k]? = some false) (d : decode cc pc = .ok (.getfield idx, 3)) {g : Nat → Option (α × pw_Sto)} (K : ∀ v, pw_Sp X cells slots (pc + 3) L (.ref v :: st) σ (g v)) : pw_Sp X cells slots pc L (.ref o :: st) σ ((pw_gr ci o k σ).bind g) := by
  obtain ⟨⟨p, l, e, R, s, m, args, below, meth, c⟩, Q, ⟨b, D, c1, c2, c3⟩, out, mc, ms⟩ := X
  intro hF hN H locs ls hl hH hS
  by_cases h : o < σ.1 ∧ (pw_sh o).1 = ci
  · rw [pw_gr, if_pos h] at hF
    cases hv : σ.2.2 o k with
    | none => rw [hv] at hF; cases hF
    | some v =>
      rw [hv] at hF
      refine va_getN (D := D) (cl := pw_cl) (v := .ref (b + v)) hX.1 hX.2.1 (Ts := pw_gt) hX.2.2.2.2.2.1 hC.2.2.1 hX.2.2.2.2.1 hX.2.2.2.2.2.2.1.1 hH o (by rw [pw_ws_at h.1, pw_cell_o h.2 hC.2.1]) hC.1 k hk (va_Nw.use rfl (hX.2.2.2.2.2.2.1.2 _ hw)) (fun _ h9 => h9) ?_ d (K v hF hN H locs ls hl hH hS)
      rw [pw_flds_at hi]
      unfold pw_fld
      rw [hv]
      rfl
  · rw [pw_gr, if_neg h] at hF; cases hF
theorem pw_put_i {E : pw_E} (h : o < σ.1 ∧ (pw_sh o).1 = ci) (hc : ci < 11) (hi : (pw_ft ci)[k]? = some true) (v : Int) {H : Heap} (hP : va_P E.2.1 pw_cl ((pw_ws E σ).set o (E.1 + o, .inr (ci, (pw_flds E.1 σ o (pw_ft ci)).set k (.int (iI v))))) H) : va_P E.2.1 pw_cl (pw_ws E (σ.1, pw_u2 σ.2.1 o k v, σ.2.2)) H := by
  refine pw_va_P_setK (σ := σ) (σ' := (σ.1, pw_u2 σ.2.1 o k v, σ.2.2)) rfl h.1 (fun j hj => pw_cell_ne (pw_u2_ne hj) rfl) ?_ hP
  rw [pw_cell_o h.2 hc, pw_flds_set (σ' := (σ.1, pw_u2 σ.2.1 o k v, σ.2.2))]
  · intro j i hj
    cases i
    · rfl
    · show Value.int (iI (pw_u2 σ.2.1 o k v o j)) = Value.int (iI (σ.2.1 o j))
      rw [pw_u2_at, if_neg hj]
  · intro i h9
    rw [hi] at h9
    cases h9
    show Value.int (iI (pw_u2 σ.2.1 o k v o k)) = Value.int (iI v)
    rw [pw_u2_at, if_pos rfl]
theorem pw_put_r {E : pw_E} (h : o < σ.1 ∧ (pw_sh o).1 = ci) (hc : ci < 11) (hi : (pw_ft ci)[k]? = some false) (v : Nat) {H : Heap} (hP : va_P E.2.1 pw_cl ((pw_ws E σ).set o (E.1 + o, .inr (ci, (pw_flds E.1 σ o (pw_ft ci)).set k (.ref (E.1 + v))))) H) : va_P E.2.1 pw_cl (pw_ws E (σ.1, σ.2.1, pw_u2 σ.2.2 o k (some v))) H := by
  refine pw_va_P_setK (σ := σ) (σ' := (σ.1, σ.2.1, pw_u2 σ.2.2 o k (some v))) rfl h.1 (fun j hj => pw_cell_ne rfl (pw_u2_ne hj)) ?_ hP
  rw [pw_cell_o h.2 hc, pw_flds_set (σ' := (σ.1, σ.2.1, pw_u2 σ.2.2 o k (some v)))]
  · intro j i hj
    cases i
    · show va_rf ((pw_u2 σ.2.2 o k (some v) o j).map _) = va_rf ((σ.2.2 o j).map _)
      rw [pw_u2_at, if_neg hj]
    · rfl
  · intro i h9
    rw [hi] at h9
    cases h9
    show va_rf ((pw_u2 σ.2.2 o k (some v) o k).map _) = .ref (E.1 + v)
    rw [pw_u2_at, if_pos rfl]
    rfl
theorem sp_putI (hX : pw_Ok X cc own rm nL) (hC : pw_Cl ci C T N Y) (hk : k < N) (hw : Cond.fieldLink own idx (T k).1 (T k).2.1 (T k).2.2.1 ∈ pw_gt) (hi : (pw_ft ci)[k]? = some true) (hfin : (T k).2.2.2 = false) (hy : Y k = .int) {v : Int} (d : decode cc pc = .ok (.putfield idx, 3)) {g : pw_Sto → Option (α × pw_Sto)} (K : ∀ σ', pw_Sp X cells slots (pc + 3) L st σ' (g σ')) : pw_Sp X cells slots pc L (.int (iI v) :: .ref o :: st) σ ((pw_pi ci o k v σ).bind g) := by
  obtain ⟨⟨p, l, e, R, s, m, args, below, meth, c⟩, Q, ⟨b, D, c1, c2, c3⟩, out, mc, ms⟩ := X
  intro hF hN H locs ls hl hH hS
  by_cases h : o < σ.1 ∧ (pw_sh o).1 = ci
  · rw [pw_pi, if_pos h] at hF
    refine va_put (D := D) (cl := pw_cl) (v := .int (iI v)) hX.1 hX.2.1 (Ts := pw_gt) hX.2.2.2.2.2.1 hC.2.2.1 Y hC.2.2.2.1 hC.2.2.2.2.1 hX.2.2.2.2.1 hX.2.2.2.2.2.2.1.1 hH (pw_ws_D (b, D, c1, c2, c3) σ) hS o (by rw [pw_ws_at h.1, pw_cell_o h.2 hC.2.1]) hC.1 k hk (hX.2.2.2.2.2.1 _ hw) (fun _ h9 => h9) hfin (hC.2.2.2.1 k hk) (by rw [hy]; rfl) (by rw [hy]; rfl) (by unfold pw_flds; rw [List.length_mapIdx, hC.2.2.2.2.2]; exact hk) d (fun H1 locs1 hP1 hD1 hS1 => ?_)
    exact K (σ.1, pw_u2 σ.2.1 o k v, σ.2.2) hF hN H1 locs1 ls hl (pw_put_i (E := (b, D, c1, c2, c3)) h hC.2.1 hi v hP1) hS1
  · rw [pw_pi, if_neg h] at hF; cases hF
theorem sp_putIF (hX : pw_Ok X cc own rm nL) (hC : pw_Cl ci C T N Y) (hk : k < N) (hw : Cond.fieldLink own idx (T k).1 (T k).2.1 (T k).2.2.1 ∈ pw_gt) (hi : (pw_ft ci)[k]? = some true) (hfin : (T k).2.2.2 = true) (hin2 : X.1.2.2.2.2.2.2.2.2.1.name = "<init>") (hdecl : (T k).1 = own) (hy : Y k = .int) {v : Int} (d : decode cc pc = .ok (.putfield idx, 3)) {g : pw_Sto → Option (α × pw_Sto)} (K : ∀ σ', pw_Sp X cells slots (pc + 3) L st σ' (g σ')) : pw_Sp X cells slots pc L (.int (iI v) :: .ref o :: st) σ ((pw_pi ci o k v σ).bind g) := by
  obtain ⟨⟨p, l, e, R, s, m, args, below, meth, c⟩, Q, ⟨b, D, c1, c2, c3⟩, out, mc, ms⟩ := X
  intro hF hN H locs ls hl hH hS
  by_cases h : o < σ.1 ∧ (pw_sh o).1 = ci
  · rw [pw_pi, if_pos h] at hF
    refine va_putF (D := D) (cl := pw_cl) (v := .int (iI v)) hX.1 hX.2.1 (Ts := pw_gt) hX.2.2.2.2.2.1 hC.2.2.1 Y hC.2.2.2.1 hC.2.2.2.2.1 hX.2.2.2.2.1 hX.2.2.2.2.2.2.1.1 hH (pw_ws_D (b, D, c1, c2, c3) σ) hS o (by rw [pw_ws_at h.1, pw_cell_o h.2 hC.2.1]) hC.1 k hk (hX.2.2.2.2.2.1 _ hw) (fun _ h9 => h9) hfin hin2 hdecl (hC.2.2.2.1 k hk) (by rw [hy]; rfl) (by rw [hy]; rfl) (by unfold pw_flds; rw [List.length_mapIdx, hC.2.2.2.2.2]; exact hk) d (fun H1 locs1 hP1 hD1 hS1 => ?_)
    exact K (σ.1, pw_u2 σ.2.1 o k v, σ.2.2) hF hN H1 locs1 ls hl (pw_put_i (E := (b, D, c1, c2, c3)) h hC.2.1 hi v hP1) hS1
  · rw [pw_pi, if_neg h] at hF; cases hF
theorem sp_putR (hX : pw_Ok X cc own rm nL) (hC : pw_Cl ci C T N Y) (hk : k < N) (hw : Cond.fieldLink own idx (T k).1 (T k).2.1 (T k).2.2.1 ∈ pw_gt) (hi : (pw_ft ci)[k]? = some false) (hfin : (T k).2.2.2 = false) (hy : narrow (Y k) (.ref 0) = .ref 0 ∧ ∀ a, narrow (Y k) (.ref a) = .ref a ∧ fits (Y k) (.ref a) = true) {v : Nat} (d : decode cc pc = .ok (.putfield idx, 3)) {g : pw_Sto → Option (α × pw_Sto)} (K : ∀ σ', pw_Sp X cells slots (pc + 3) L st σ' (g σ')) : pw_Sp X cells slots pc L (.ref v :: .ref o :: st) σ ((pw_pr ci o k v σ).bind g) := by
  obtain ⟨⟨p, l, e, R, s, m, args, below, meth, c⟩, Q, ⟨b, D, c1, c2, c3⟩, out, mc, ms⟩ := X
  intro hF hN H locs ls hl hH hS
  by_cases h : o < σ.1 ∧ (pw_sh o).1 = ci
  · rw [pw_pr, if_pos h] at hF
    refine va_put (D := D) (cl := pw_cl) (v := .ref (b + v)) hX.1 hX.2.1 (Ts := pw_gt) hX.2.2.2.2.2.1 hC.2.2.1 Y hC.2.2.2.1 hC.2.2.2.2.1 hX.2.2.2.2.1 hX.2.2.2.2.2.2.1.1 hH (pw_ws_D (b, D, c1, c2, c3) σ) hS o (by rw [pw_ws_at h.1, pw_cell_o h.2 hC.2.1]) hC.1 k hk (hX.2.2.2.2.2.1 _ hw) (fun _ h9 => h9) hfin (hC.2.2.2.1 k hk) (hy.2 (b + v)).1 (hy.2 (b + v)).2 (by unfold pw_flds; rw [List.length_mapIdx, hC.2.2.2.2.2]; exact hk) d (fun H1 locs1 hP1 hD1 hS1 => ?_)
    exact K (σ.1, σ.2.1, pw_u2 σ.2.2 o k (some v)) hF hN H1 locs1 ls hl (pw_put_r (E := (b, D, c1, c2, c3)) h hC.2.1 hi v hP1) hS1
  · rw [pw_pr, if_neg h] at hF; cases hF
theorem sp_putRF (hX : pw_Ok X cc own rm nL) (hC : pw_Cl ci C T N Y) (hk : k < N) (hw : Cond.fieldLink own idx (T k).1 (T k).2.1 (T k).2.2.1 ∈ pw_gt) (hi : (pw_ft ci)[k]? = some false) (hfin : (T k).2.2.2 = true) (hin2 : X.1.2.2.2.2.2.2.2.2.1.name = "<init>") (hdecl : (T k).1 = own) (hy : narrow (Y k) (.ref 0) = .ref 0 ∧ ∀ a, narrow (Y k) (.ref a) = .ref a ∧ fits (Y k) (.ref a) = true) {v : Nat} (d : decode cc pc = .ok (.putfield idx, 3)) {g : pw_Sto → Option (α × pw_Sto)} (K : ∀ σ', pw_Sp X cells slots (pc + 3) L st σ' (g σ')) : pw_Sp X cells slots pc L (.ref v :: .ref o :: st) σ ((pw_pr ci o k v σ).bind g) := by
  obtain ⟨⟨p, l, e, R, s, m, args, below, meth, c⟩, Q, ⟨b, D, c1, c2, c3⟩, out, mc, ms⟩ := X
  intro hF hN H locs ls hl hH hS
  by_cases h : o < σ.1 ∧ (pw_sh o).1 = ci
  · rw [pw_pr, if_pos h] at hF
    refine va_putF (D := D) (cl := pw_cl) (v := .ref (b + v)) hX.1 hX.2.1 (Ts := pw_gt) hX.2.2.2.2.2.1 hC.2.2.1 Y hC.2.2.2.1 hC.2.2.2.2.1 hX.2.2.2.2.1 hX.2.2.2.2.2.2.1.1 hH (pw_ws_D (b, D, c1, c2, c3) σ) hS o (by rw [pw_ws_at h.1, pw_cell_o h.2 hC.2.1]) hC.1 k hk (hX.2.2.2.2.2.1 _ hw) (fun _ h9 => h9) hfin hin2 hdecl (hC.2.2.2.1 k hk) (hy.2 (b + v)).1 (hy.2 (b + v)).2 (by unfold pw_flds; rw [List.length_mapIdx, hC.2.2.2.2.2]; exact hk) d (fun H1 locs1 hP1 hD1 hS1 => ?_)
    exact K (σ.1, σ.2.1, pw_u2 σ.2.2 o k (some v)) hF hN H1 locs1 ls hl (pw_put_r (E := (b, D, c1, c2, c3)) h hC.2.1 hi v hP1) hS1
  · rw [pw_pr, if_neg h] at hF; cases hF
theorem sp_putIN (hX : pw_Ok X cc own rm nL) (hC : pw_Cl ci C T N Y) (hk : k < N) (hw : Cond.fieldLinkNest own idx (T k).1 (T k).2.1 (T k).2.2.1 host ∈ pw_nest) (hi : (pw_ft ci)[k]? = some true) (hfin : (T k).2.2.2 = false) (hy : Y k = .int) {v : Int} (d : decode cc pc = .ok (.putfield idx, 3)) {g : pw_Sto → Option (α × pw_Sto)} (K : ∀ σ', pw_Sp X cells slots (pc + 3) L st σ' (g σ')) : pw_Sp X cells slots pc L (.int (iI v) :: .ref o :: st) σ ((pw_pi ci o k v σ).bind g) := by
  obtain ⟨⟨p, l, e, R, s, m, args, below, meth, c⟩, Q, ⟨b, D, c1, c2, c3⟩, out, mc, ms⟩ := X
  intro hF hN H locs ls hl hH hS
  by_cases h : o < σ.1 ∧ (pw_sh o).1 = ci
  · rw [pw_pi, if_pos h] at hF
    refine va_putN (D := D) (cl := pw_cl) (v := .int (iI v)) hX.1 hX.2.1 (Ts := pw_gt) hX.2.2.2.2.2.1 hC.2.2.1 Y hC.2.2.2.1 hC.2.2.2.2.1 hX.2.2.2.2.1 hX.2.2.2.2.2.2.1.1 hH (pw_ws_D (b, D, c1, c2, c3) σ) hS o (by rw [pw_ws_at h.1, pw_cell_o h.2 hC.2.1]) hC.1 k hk (va_Nw.use rfl (hX.2.2.2.2.2.2.1.2 _ hw)) (fun _ h9 => h9) hfin (hC.2.2.2.1 k hk) (by rw [hy]; rfl) (by rw [hy]; rfl) (by unfold pw_flds; rw [List.length_mapIdx, hC.2.2.2.2.2]; exact hk) d (fun H1 locs1 hP1 hD1 hS1 => ?_)
    exact K (σ.1, pw_u2 σ.2.1 o k v, σ.2.2) hF hN H1 locs1 ls hl (pw_put_i (E := (b, D, c1, c2, c3)) h hC.2.1 hi v hP1) hS1
  · rw [pw_pi, if_neg h] at hF; cases hF
theorem sp_putRN (hX : pw_Ok X cc own rm nL) (hC : pw_Cl ci C T N Y) (hk : k < N) (hw : Cond.fieldLinkNest own idx (T k).1 (T k).2.1 (T k).2.2.1 host ∈ pw_nest) (hi : (pw_ft ci)[k]? = some false) (hfin : (T k).2.2.2 = false) (hy : narrow (Y k) (.ref 0) = .ref 0 ∧ ∀ a, narrow (Y k) (.ref a) = .ref a ∧ fits (Y k) (.ref a) = true) {v : Nat} (d : decode cc pc = .ok (.putfield idx, 3)) {g : pw_Sto → Option (α × pw_Sto)} (K : ∀ σ', pw_Sp X cells slots (pc + 3) L st σ' (g σ')) : pw_Sp X cells slots pc L (.ref v :: .ref o :: st) σ ((pw_pr ci o k v σ).bind g) := by
  obtain ⟨⟨p, l, e, R, s, m, args, below, meth, c⟩, Q, ⟨b, D, c1, c2, c3⟩, out, mc, ms⟩ := X
  intro hF hN H locs ls hl hH hS
  by_cases h : o < σ.1 ∧ (pw_sh o).1 = ci
  · rw [pw_pr, if_pos h] at hF
    refine va_putN (D := D) (cl := pw_cl) (v := .ref (b + v)) hX.1 hX.2.1 (Ts := pw_gt) hX.2.2.2.2.2.1 hC.2.2.1 Y hC.2.2.2.1 hC.2.2.2.2.1 hX.2.2.2.2.1 hX.2.2.2.2.2.2.1.1 hH (pw_ws_D (b, D, c1, c2, c3) σ) hS o (by rw [pw_ws_at h.1, pw_cell_o h.2 hC.2.1]) hC.1 k hk (va_Nw.use rfl (hX.2.2.2.2.2.2.1.2 _ hw)) (fun _ h9 => h9) hfin (hC.2.2.2.1 k hk) (hy.2 (b + v)).1 (hy.2 (b + v)).2 (by unfold pw_flds; rw [List.length_mapIdx, hC.2.2.2.2.2]; exact hk) d (fun H1 locs1 hP1 hD1 hS1 => ?_)
    exact K (σ.1, σ.2.1, pw_u2 σ.2.2 o k (some v)) hF hN H1 locs1 ls hl (pw_put_r (E := (b, D, c1, c2, c3)) h hC.2.1 hi v hP1) hS1
  · rw [pw_pr, if_neg h] at hF; cases hF
theorem pw_vin {i : Int} {a : Nat} (h : 0 ≤ i ∧ i < (pw_sh a).2) : vp_in (iI i) (pw_sh a).2 := by
  have := pw_sh_le a
  have hr : pw_R i := ⟨by omega, by omega⟩
  intro q
  rcases q with q | q
  · have := (iI_lt (x := i) (y := 0) hr (by omega)).mp q
    omega
  · rw [iI_cl hr] at q
    omega
theorem pw_icl {i : Int} {a : Nat} (h : 0 ≤ i ∧ i < (pw_sh a).2) : (iI i).toNatClampNeg = i.toNat := by
  have := pw_sh_le a
  exact iI_cl ⟨by omega, by omega⟩
theorem sp_iaload (hX : pw_Ok X cc own rm nL) {a : Nat} {i : Int} (d : decode cc pc = .ok (.iaload, 1)) {g : Int → Option (α × pw_Sto)} (K : ∀ v, pw_Sp X cells slots (pc + 1) L (.int (iI v) :: st) σ (g v)) : pw_Sp X cells slots pc L (.int (iI i) :: .ref a :: st) σ ((pw_ai a i σ).bind g) := by
  obtain ⟨⟨p, l, e, R, s, m, args, below, meth, c⟩, Q, ⟨b, D, c1, c2, c3⟩, out, mc, ms⟩ := X
  intro hF hN H locs ls hl hH hS
  by_cases h : (a < σ.1 ∧ (pw_sh a).1 = 11) ∧ (0 ≤ i ∧ i < (pw_sh a).2)
  · rw [pw_ai, if_pos h] at hF
    exact va_iald (D := D) (cl := pw_cl) hX.1 hX.2.1 hX.2.2.2.2.2.2.1.1 hH a 0 (by rw [pw_ws_at h.1.1, pw_cell_i h.1.2]) rfl (pw_vin h.2) d (by rw [pw_icl h.2]; exact K _ hF hN H locs ls hl hH hS)
  · rw [pw_ai, if_neg h] at hF; cases hF
theorem sp_iastore (hX : pw_Ok X cc own rm nL) {a : Nat} {i v : Int} (d : decode cc pc = .ok (.iastore, 1)) {g : pw_Sto → Option (α × pw_Sto)} (K : ∀ σ', pw_Sp X cells slots (pc + 1) L st σ' (g σ')) : pw_Sp X cells slots pc L (.int (iI v) :: .int (iI i) :: .ref a :: st) σ ((pw_si a i v σ).bind g) := by
  obtain ⟨⟨p, l, e, R, s, m, args, below, meth, c⟩, Q, ⟨b, D, c1, c2, c3⟩, out, mc, ms⟩ := X
  intro hF hN H locs ls hl hH hS
  by_cases h : (a < σ.1 ∧ (pw_sh a).1 = 11) ∧ (0 ≤ i ∧ i < (pw_sh a).2)
  · rw [pw_si, if_pos h] at hF
    refine va_iast (D := D) (cl := pw_cl) hX.1 hX.2.1 hX.2.2.2.2.2.2.1.1 hH (pw_ws_D (b, D, c1, c2, c3) σ) hS a 0 (by rw [pw_ws_at h.1.1, pw_cell_i h.1.2]) rfl (pw_vin h.2) d (fun H1 locs1 hP1 hD1 hS1 => ?_)
    rw [pw_icl h.2] at hP1
    refine K (σ.1, pw_u2 σ.2.1 a i.toNat v, σ.2.2) hF hN H1 locs1 ls hl (pw_va_P_setK (E := (b, D, c1, c2, c3)) (σ := σ) (σ' := (σ.1, pw_u2 σ.2.1 a i.toNat v, σ.2.2)) rfl h.1.1 (fun j hj => pw_cell_ne (pw_u2_ne hj) rfl) ?_ hP1) hS1
    rw [pw_cell_i h.1.2]
    refine congrArg (fun f => Sum.inl (c1, (pw_sh a).2, Sum.inl f)) (funext fun k => ?_)
    show iI (pw_u2 σ.2.1 a i.toNat v a k) = upd (fun k => iI (σ.2.1 a k)) i.toNat (iI v) k
    rw [pw_u2_at]
    unfold upd
    by_cases hk : k = i.toNat
    · rw [if_pos hk, if_pos hk]
    · rw [if_neg hk, if_neg hk]
  · rw [pw_si, if_neg h] at hF; cases hF
theorem sp_alen (hX : pw_Ok X cc own rm nL) {a : Nat} (d : decode cc pc = .ok (.arraylength, 1)) {g : Int → Option (α × pw_Sto)} (K : ∀ v, pw_Sp X cells slots (pc + 1) L (.int (iI v) :: st) σ (g v)) : pw_Sp X cells slots pc L (.ref a :: st) σ ((pw_al a σ).bind g) := by
  obtain ⟨⟨p, l, e, R, s, m, args, below, meth, c⟩, Q, ⟨b, D, c1, c2, c3⟩, out, mc, ms⟩ := X
  intro hF hN H locs ls hl hH hS
  by_cases h : a < σ.1 ∧ (pw_sh a).1 = 11
  · rw [pw_al, if_pos h] at hF
    exact va_alen (D := D) (cl := pw_cl) (x := ((pw_sh a).2, .inl (fun k => iI (σ.2.1 a k)))) hX.1 hX.2.1 hX.2.2.2.2.2.2.1.1 hH a 0 (by rw [pw_ws_at h.1, pw_cell_i h.2]) rfl rfl d (K _ hF hN H locs ls hl hH hS)
  · rw [pw_al, if_neg h] at hF; cases hF
theorem sp_aaS (hX : pw_Ok X cc own rm nL) {a : Nat} {i : Int} (d : decode cc pc = .ok (.aaload, 1)) {g : Nat → Option (α × pw_Sto)} (K : ∀ v, pw_Sp X cells slots (pc + 1) L (.ref v :: st) σ (g v)) : pw_Sp X cells slots pc L (.int (iI i) :: .ref a :: st) σ ((pw_ar 12 a i σ).bind g) := by
  obtain ⟨⟨p, l, e, R, s, m, args, below, meth, c⟩, Q, ⟨b, D, c1, c2, c3⟩, out, mc, ms⟩ := X
  intro hF hN H locs ls hl hH hS
  by_cases h : (a < σ.1 ∧ (pw_sh a).1 = 12) ∧ (0 ≤ i ∧ i < (pw_sh a).2)
  · rw [pw_ar, if_pos h] at hF
    cases hv : σ.2.2 a i.toNat with
    | none => rw [hv] at hF; cases hF
    | some v =>
      rw [hv] at hF
      refine va_aldq (D := D) (cl := pw_cl) hX.1 hX.2.1 hX.2.2.2.2.2.2.1.1 hH a 1 (by rw [pw_ws_at h.1.1, pw_cell_s h.1.2]) rfl (pw_vin h.2) d ?_
      dsimp only
      rw [pw_icl h.2, hv]
      exact K v hF hN H locs ls hl hH hS
  · rw [pw_ar, if_neg h] at hF; cases hF
theorem sp_aaG (hX : pw_Ok X cc own rm nL) {a : Nat} {i : Int} (d : decode cc pc = .ok (.aaload, 1)) {g : Nat → Option (α × pw_Sto)} (K : ∀ v, pw_Sp X cells slots (pc + 1) L (.ref v :: st) σ (g v)) : pw_Sp X cells slots pc L (.int (iI i) :: .ref a :: st) σ ((pw_ar 13 a i σ).bind g) := by
  obtain ⟨⟨p, l, e, R, s, m, args, below, meth, c⟩, Q, ⟨b, D, c1, c2, c3⟩, out, mc, ms⟩ := X
  intro hF hN H locs ls hl hH hS
  by_cases h : (a < σ.1 ∧ (pw_sh a).1 = 13) ∧ (0 ≤ i ∧ i < (pw_sh a).2)
  · rw [pw_ar, if_pos h] at hF
    cases hv : σ.2.2 a i.toNat with
    | none => rw [hv] at hF; cases hF
    | some v =>
      rw [hv] at hF
      have ha : (pw_ws (b, D, c1, c2, c3) σ)[a]? = some (b + a, .inl (c3, (pw_sh a).2, .inr (.inr (.inr (.inr (fun k => (σ.2.2 a k).map (fun j => b + j))))))) := by rw [pw_ws_at h.1.1, pw_cell_g h.1.2]
      have hK := hX.2.2.2.2.2.2.1.1
      have ht : (pw_tys (b, D, c1, c2, c3))[2]? = some (c3, .array .int) := rfl
      refine W.aald (v := .ref (b + v)) (ty := .array .int) hX.1 hX.2.1 (hH a _ ha) ((hK.2 2 _ ht).1 (pw_sh a).2 (fun j => va_rf ((σ.2.2 a j).map (fun j => b + j)))) rfl (fun q => by cases q) (by show ¬ (iI i < 0 ∨ (arrV _ _ _).slots.size ≤ _); rw [arrV_size]; exact pw_vin h.2) (by show (arrV _ _ _).slots[_]? = _; rw [pw_icl h.2, arrV_read _ _ (show i.toNat < (pw_sh a).2 by omega)]; show some (va_rf ((σ.2.2 a i.toNat).map _)) = _; rw [hv]; rfl) rfl rfl d (K v hF hN H locs ls hl hH hS)
  · rw [pw_ar, if_neg h] at hF; cases hF
theorem sp_copy (hX : pw_Ok X cc own rm nL) {a d : Nat} {i j n : Int} (hw : Cond.methodLink own idx arraycopyName ∈ pw_gt) (h1 : Cond.native arraycopyName ∈ pw_gt) (h2 : Cond.static arraycopyName ∈ pw_gt) (h3 : Cond.initialized "java/lang/System" ∈ pw_gt) (hfr : 1 ≤ rm.frames) (hlo : (st.map fun v => v.category).sum + (nativeFrameWords "java/lang/System" "arraycopy" 5 + 11) ≤ rm.locals) (dc : decode cc pc = .ok (.invokestatic idx, 3)) {g : pw_Sto → Option (α × pw_Sto)} (K : ∀ σ', pw_Sp X cells slots (pc + 3) L st σ' (g σ')) : pw_Sp X cells slots pc L (.int (iI n) :: .int (iI j) :: .ref d :: .int (iI i) :: .ref a :: st) σ ((pw_cp a i d j n σ).bind g) := by
  obtain ⟨⟨p, l, e, R, s, m, args, below, meth, c⟩, Q, ⟨b, D, c1, c2, c3⟩, out, mc, ms⟩ := X
  intro hF hN H locs ls hl hH hS
  by_cases h : ((a < σ.1 ∧ (pw_sh a).1 = 11) ∧ (d < σ.1 ∧ (pw_sh d).1 = 11)) ∧ ((0 ≤ i ∧ 0 ≤ j ∧ 0 ≤ n) ∧ (i + n ≤ (pw_sh a).2 ∧ j + n ≤ (pw_sh d).2))
  · rw [pw_cp, if_pos h] at hF
    have hst : ((st.map (pw_tr b)).map fun v => v.category) = st.map fun v => v.category := by
      rw [List.map_map]
      congr 1
      funext v
      exact pw_tr_cat b v
    have z1 := pw_sh_le a
    have z2 := pw_sh_le d
    have ri : pw_R i := ⟨by omega, by omega⟩
    have rj : pw_R j := ⟨by omega, by omega⟩
    have rn : pw_R n := ⟨by omega, by omega⟩
    have ni : ¬ iI i < 0 := fun q => by have := (iI_lt (x := i) (y := 0) ri (by omega)).mp q; omega
    have nj : ¬ iI j < 0 := fun q => by have := (iI_lt (x := j) (y := 0) rj (by omega)).mp q; omega
    have nn : ¬ iI n < 0 := fun q => by have := (iI_lt (x := n) (y := 0) rn (by omega)).mp q; omega
    refine va_copyi (D := D) (cl := pw_cl) (ty := .int) hX.1 hX.2.1 (hl.1.symm) hX.2.2.2.2.1 (hX.2.2.2.2.2.1 _ hw) (hX.2.2.2.2.2.1 _ h1) (hX.2.2.2.2.2.1 _ h2) (hX.2.2.2.2.2.1 _ h3) hX.2.2.2.2.2.2.1.1 hH (pw_ws_D (b, D, c1, c2, c3) σ) hS a d 0 0 (by rw [pw_ws_at h.1.1.1, pw_cell_i h.1.1.2]) (by rw [pw_ws_at h.1.2.1, pw_cell_i h.1.2.2]) rfl rfl rfl ni nj nn (by rw [iI_cl ri, iI_cl rn]; omega) (by rw [iI_cl rj, iI_cl rn]; omega) (fun _ _ => rfl) (by rw [hX.2.2.2.1]; exact hfr) (by rw [hX.2.2.2.1, hst]; exact hlo) dc (fun H1 locs1 hP1 hD1 hS1 => ?_)
    rw [iI_cl ri, iI_cl rj, iI_cl rn] at hP1
    refine K _ hF hN H1 locs1 ls hl (pw_va_P_setK (E := (b, D, c1, c2, c3)) (σ := σ) (σ' := (σ.1, (fun q => if q = d then va_cpy (σ.2.1 a) (σ.2.1 d) i.toNat j.toNat n.toNat else σ.2.1 q), σ.2.2)) rfl h.1.2.1 (fun j hj => pw_cell_ne (if_neg hj) rfl) ?_ hP1) hS1
    rw [pw_cell_i h.1.2.2]
    refine congrArg (fun f => Sum.inl (c1, (pw_sh d).2, Sum.inl f)) (funext fun k => ?_)
    show iI ((if d = d then va_cpy (σ.2.1 a) (σ.2.1 d) i.toNat j.toNat n.toNat else σ.2.1 d) k) = va_cpy (fun k => iI (σ.2.1 a k)) (fun k => iI (σ.2.1 d k)) i.toNat j.toNat n.toNat k
    rw [if_pos rfl]
    unfold va_cpy
    by_cases hk : j.toNat ≤ k ∧ k < j.toNat + n.toNat
    · rw [if_pos hk, if_pos hk]
    · rw [if_neg hk, if_neg hk]
  · rw [pw_cp, if_neg h] at hF; cases hF
end PWH
end
section
/-! ## contracts, calls, returns -/
def pw_Con (l : Launch) (E : pw_E) (y : MethodName) (cc : ByteArray) (nL : Nat) (ret : Option FieldType) (rm : Room) (As : List Value) (σ : pw_Sto) (Qc : Array Value → State → Outcome → State → Prop) : Prop :=
  Met l y (Cond.code y cc nL ret :: pw_gt) rm (va_Pc (As.map (pw_tr E.1)) (pw_U E σ)) Qc rm.cells rm.slots (fun q => E.1 ≤ q)
def pw_CI (l : Launch) (E : pw_E) (y : MethodName) (cc : ByteArray) (nL : Nat) (ret : Option FieldType) (rm : Room) (As : List Value) (σ : pw_Sto) (o : Int × pw_Sto) : Prop := pw_Con l E y cc nL ret rm As σ (va_Qi (fun (r : Int32) (_ : Unit) => r = iI o.1 ∧ o.2.1 = σ.1 + rm.cells) (fun _ t => pw_U E o.2 t) (fun q => E.1 ≤ q))
def pw_CL (l : Launch) (E : pw_E) (y : MethodName) (cc : ByteArray) (nL : Nat) (ret : Option FieldType) (rm : Room) (As : List Value) (σ : pw_Sto) (o : Int64 × pw_Sto) : Prop := pw_Con l E y cc nL ret rm As σ (va_Ql (fun (r : Int64) (_ : Unit) => r = o.1 ∧ o.2.1 = σ.1 + rm.cells) (fun _ t => pw_U E o.2 t) (fun q => E.1 ≤ q))
def pw_CV (l : Launch) (E : pw_E) (y : MethodName) (cc : ByteArray) (nL : Nat) (ret : Option FieldType) (rm : Room) (As : List Value) (σ : pw_Sto) (o : Unit × pw_Sto) : Prop := pw_Con l E y cc nL ret rm As σ (va_Qv (fun (_ : Unit) => o.2.1 = σ.1 + rm.cells) (fun _ t => pw_U E o.2 t) (fun q => E.1 ≤ q))
theorem pw_low {E : pw_E} {σ : pw_Sto} {H : Heap} (h : pw_H E σ H) : σ.1 = 0 ∨ E.1 + σ.1 ≤ H.size := by
  cases hn : σ.1 with
  | zero => exact Or.inl rfl
  | succ n =>
    have h1 := (h n _ (pw_ws_at (by omega))).lt
    dsimp only at h1
    right
    omega
theorem pw_size {E : pw_E} {σ : pw_Sto} {H : Heap} {n0 cells : Nat} (h : pw_H E σ H) (h0 : E.1 ≤ n0) (h1 : n0 ≤ H.size) (hN : E.1 + σ.1 = n0 + cells) (h2 : H.size ≤ n0 + cells) : H.size = E.1 + σ.1 := by
  rcases pw_low h with q | q
  · omega
  · omega
theorem pw_args (b : Nat) : ∀ (As : List Value) (n : Nat), lv_args n (As.map (pw_tr b)) = (lv_args n As).map (pw_trq b) := by
  intro As
  induction As with
  | nil => intro n; rfl
  | cons v As ih =>
    intro n
    simp only [List.map_cons, lv_args, ih, pw_tr_cat]
    rfl
theorem pw_sl_len (b : Nat) : ∀ (As : List Value), (lg_sl (As.map (pw_tr b))).length = (lg_sl As).length := by
  intro As
  induction As with
  | nil => rfl
  | cons v As ih => cases v <;> simp_all [lg_sl, pw_tr, Value.category]
theorem pw_blind {E : pw_E} {σ : pw_Sto} {av : List Value} : FrameBlind (va_Pc av (pw_U E σ)) := by
  intro a U g mk h
  exact ⟨h.1, h.2.1, h.2.2.1, pw_T.moved (U := U.calling g mk a) (State.WarmedH.refl U) h.2.2.2⟩
def pw_RI (X : pw_X Int) (cc : ByteArray) : Prop := ∀ (pc : Nat) (ls : Array Slot) (v : Int) (σ : pw_Sto) (H : Heap) (locs : List Loc), decode cc pc = .ok (.ireturn, 1) → some (v, σ) = some X.2.2.2.1 → X.2.2.1.1 + σ.1 = X.1.2.2.2.2.1.heap.size + X.2.2.2.2.1 → pw_H X.2.2.1 σ H → va_S (fun q => X.2.2.1.1 ≤ q) X.1.2.2.2.2.1.heap H locs → pw_W X H locs X.2.2.2.2.1 X.2.2.2.2.2 (F0 X.1.2.2.2.2.2.1 pc ls [.int (iI v)])
def pw_RZ (X : pw_X Int) (cc : ByteArray) : Prop := ∀ (pc : Nat) (ls : Array Slot) (v : Int) (σ : pw_Sto) (H : Heap) (locs : List Loc), (v = 0 ∨ v = 1) → decode cc pc = .ok (.ireturn, 1) → some (v, σ) = some X.2.2.2.1 → X.2.2.1.1 + σ.1 = X.1.2.2.2.2.1.heap.size + X.2.2.2.2.1 → pw_H X.2.2.1 σ H → va_S (fun q => X.2.2.1.1 ≤ q) X.1.2.2.2.2.1.heap H locs → pw_W X H locs X.2.2.2.2.1 X.2.2.2.2.2 (F0 X.1.2.2.2.2.2.1 pc ls [.int (iI v)])
def pw_RL (X : pw_X Int64) (cc : ByteArray) : Prop := ∀ (pc : Nat) (ls : Array Slot) (v : Int64) (σ : pw_Sto) (H : Heap) (locs : List Loc), decode cc pc = .ok (.lreturn, 1) → some (v, σ) = some X.2.2.2.1 → X.2.2.1.1 + σ.1 = X.1.2.2.2.2.1.heap.size + X.2.2.2.2.1 → pw_H X.2.2.1 σ H → va_S (fun q => X.2.2.1.1 ≤ q) X.1.2.2.2.2.1.heap H locs → pw_W X H locs X.2.2.2.2.1 X.2.2.2.2.2 (F0 X.1.2.2.2.2.2.1 pc ls [.long v])
def pw_RV (X : pw_X Unit) (cc : ByteArray) : Prop := ∀ (pc : Nat) (ls : Array Slot) (σ : pw_Sto) (H : Heap) (locs : List Loc), decode cc pc = .ok (.return_, 1) → some ((), σ) = some X.2.2.2.1 → X.2.2.1.1 + σ.1 = X.1.2.2.2.2.1.heap.size + X.2.2.2.2.1 → pw_H X.2.2.1 σ H → va_S (fun q => X.2.2.1.1 ≤ q) X.1.2.2.2.2.1.heap H locs → pw_W X H locs X.2.2.2.2.1 X.2.2.2.2.2 (F0 X.1.2.2.2.2.2.1 pc ls [])
section PWret
variable {cc : ByteArray} {own : String} {rm : Room} {nL cells slots pc : Nat} {L : List (Nat × Value)} {σ : pw_Sto}
theorem sp_iret {X : pw_X Int} (hX : pw_Ok X cc own rm nL) (hR : pw_RI X cc) {v : Int} (hc : cells = rm.cells) (hs : slots ≤ rm.slots) (d : decode cc pc = .ok (.ireturn, 1)) : pw_Sp X cells slots pc L [.int (iI v)] σ (some (v, σ)) := by
  intro hF hN H locs ls hl hH hS
  subst hc
  rw [← hX.2.2.2.2.2.2.2.2.1] at hN ⊢
  exact W.widen (Nat.le_refl _) (by rw [hX.2.2.2.2.2.2.2.2.2]; exact hs) (hR pc ls v σ H locs d hF hN hH hS)
theorem sp_zret {X : pw_X Int} (hX : pw_Ok X cc own rm nL) (hR : pw_RZ X cc) {v : Int} (hv : v = 0 ∨ v = 1) (hc : cells = rm.cells) (hs : slots ≤ rm.slots) (d : decode cc pc = .ok (.ireturn, 1)) : pw_Sp X cells slots pc L [.int (iI v)] σ (some (v, σ)) := by
  intro hF hN H locs ls hl hH hS
  subst hc
  rw [← hX.2.2.2.2.2.2.2.2.1] at hN ⊢
  exact W.widen (Nat.le_refl _) (by rw [hX.2.2.2.2.2.2.2.2.2]; exact hs) (hR pc ls v σ H locs hv d hF hN hH hS)
def pw_z (v : Int) (σ : pw_Sto) : Option (Int × pw_Sto) := if v = 0 ∨ v = 1 then some (v, σ) else none
theorem sp_zretg {X : pw_X Int} (hX : pw_Ok X cc own rm nL) (hR : pw_RZ X cc) {v : Int} (hc : cells = rm.cells) (hs : slots ≤ rm.slots) (d : decode cc pc = .ok (.ireturn, 1)) : pw_Sp X cells slots pc L [.int (iI v)] σ (pw_z v σ) := by
  by_cases h : v = 0 ∨ v = 1
  · unfold pw_z
    rw [if_pos h]
    exact sp_zret hX hR h hc hs d
  · unfold pw_z
    rw [if_neg h]
    exact pw_none
theorem sp_lret {X : pw_X Int64} (hX : pw_Ok X cc own rm nL) (hR : pw_RL X cc) {v : Int64} (hc : cells = rm.cells) (hs : slots ≤ rm.slots) (d : decode cc pc = .ok (.lreturn, 1)) : pw_Sp X cells slots pc L [.long v] σ (some (v, σ)) := by
  intro hF hN H locs ls hl hH hS
  subst hc
  rw [← hX.2.2.2.2.2.2.2.2.1] at hN ⊢
  exact W.widen (Nat.le_refl _) (by rw [hX.2.2.2.2.2.2.2.2.2]; exact hs) (hR pc ls v σ H locs d hF hN hH hS)
theorem sp_vret {X : pw_X Unit} (hX : pw_Ok X cc own rm nL) (hR : pw_RV X cc) (hc : cells = rm.cells) (hs : slots ≤ rm.slots) (d : decode cc pc = .ok (.return_, 1)) : pw_Sp X cells slots pc L [] σ (some ((), σ)) := by
  intro hF hN H locs ls hl hH hS
  subst hc
  rw [← hX.2.2.2.2.2.2.2.2.1] at hN ⊢
  exact W.widen (Nat.le_refl _) (by rw [hX.2.2.2.2.2.2.2.2.2]; exact hs) (hR pc ls σ H locs d hF hN hH hS)
end PWret
theorem pw_entryI {l : Launch} {E : pw_E} {y : MethodName} {cc : ByteArray} {nL : Nat} {rm : Room} {As : List Value} {σ : pw_Sto} {out : Int × pw_Sto} {F : Option (Int × pw_Sto)} (hy : plainName y.cls = true) (hnl : (lg_sl As).length ≤ nL) (h : F = some out)
    (body : ∀ X : pw_X Int, pw_Ok X cc y.cls rm nL → pw_RI X cc → X.1.2.2.2.2.2.2.2.2.1.name = y.name → pw_Sp X 0 0 0 (lv_args 0 As) [] σ F) : pw_CI l E y cc nL (some .int) rm As σ out := by
  refine Met.ofW (cc := cc) (maxL := nL) (ret := (some .int)) hy rfl ?_
  intro p e s m args below meth c s₁ B hml hv
  obtain ⟨rfl, hH, hsz, hT⟩ := hv
  have hts := atoms_spec (ws := Cond.code y cc nL (some .int) :: pw_gt) B.pre
  have hlocks := B.notSynchronized
  have hr := B.returns
  have hX : ∀ Q : State → Prop, pw_Ok (((p, l, e, (headSpec (Cond.code y cc nL (some .int) :: pw_gt) rm).room, s, m, (As.map (pw_tr E.1)).toArray, below, meth, c), Q, E, out, rm.cells, rm.slots) : pw_X Int) cc y.cls rm nL := fun Q => ⟨B.exec, B.bytes, hml, rfl, findClass_of_methodNamed B.named, fun w hw => hts w (List.mem_cons_of_mem _ hw), hT, by show E.1 ≤ s.heap.size; omega, rfl, rfl⟩
  have hl := lv_entry (As.map (pw_tr E.1)) (n := nL) (by rw [pw_sl_len]; exact hnl)
  rw [pw_args] at hl
  rw [lg_entry_eq]
  refine body _ (hX _) ?_ (name_of_methodNamed B.named B.method).1 h (by show E.1 + σ.1 = s.heap.size + 0; omega) s.heap [] _ (by rw [hml]; exact hl) hH va_S.rf
  intro pc' ls' v' σ' H' locs' d' hF' hN' hH' hS'
  intro T hTT XX
  have hle : T.heap.size ≤ s.heap.size + rm.cells := XX.heapSize
  have hsz2 : T.heap.size = E.1 + σ'.1 := pw_size (n0 := s.heap.size) (cells := rm.cells) (by rw [hTT]; exact hH') (by omega) (by rw [hTT]; exact hS'.1) hN' hle
  have hF2 : (v', σ') = out := Option.some.inj hF'
  have hN2 : E.1 + σ'.1 = s.heap.size + rm.cells := hN'
  refine W.iret (v := iI v') B.exec B.bytes hr (fun t ht hW => ⟨⟨iI v', (), rfl, ⟨by rw [← hF2], by rw [← hF2]; show σ'.1 = σ.1 + rm.cells; omega⟩, ?_, ?_, pw_T.moved hW hT⟩, hS'.F ht⟩) hS'.2.2 d' hlocks T hTT XX
  · rw [ht]; show pw_H E out.2 H'; rw [← hF2]; exact hH'
  · rw [ht, ← hTT]; show T.heap.size = E.1 + out.2.1; rw [← hF2]; exact hsz2
theorem pw_entryZ {l : Launch} {E : pw_E} {y : MethodName} {cc : ByteArray} {nL : Nat} {rm : Room} {As : List Value} {σ : pw_Sto} {out : Int × pw_Sto} {F : Option (Int × pw_Sto)} (hy : plainName y.cls = true) (hnl : (lg_sl As).length ≤ nL) (h : F = some out)
    (body : ∀ X : pw_X Int, pw_Ok X cc y.cls rm nL → pw_RZ X cc → X.1.2.2.2.2.2.2.2.2.1.name = y.name → pw_Sp X 0 0 0 (lv_args 0 As) [] σ F) : pw_CI l E y cc nL (some .boolean) rm As σ out := by
  refine Met.ofW (cc := cc) (maxL := nL) (ret := (some .boolean)) hy rfl ?_
  intro p e s m args below meth c s₁ B hml hv
  obtain ⟨rfl, hH, hsz, hT⟩ := hv
  have hts := atoms_spec (ws := Cond.code y cc nL (some .boolean) :: pw_gt) B.pre
  have hlocks := B.notSynchronized
  have hr := B.returns
  have hX : ∀ Q : State → Prop, pw_Ok (((p, l, e, (headSpec (Cond.code y cc nL (some .boolean) :: pw_gt) rm).room, s, m, (As.map (pw_tr E.1)).toArray, below, meth, c), Q, E, out, rm.cells, rm.slots) : pw_X Int) cc y.cls rm nL := fun Q => ⟨B.exec, B.bytes, hml, rfl, findClass_of_methodNamed B.named, fun w hw => hts w (List.mem_cons_of_mem _ hw), hT, by show E.1 ≤ s.heap.size; omega, rfl, rfl⟩
  have hl := lv_entry (As.map (pw_tr E.1)) (n := nL) (by rw [pw_sl_len]; exact hnl)
  rw [pw_args] at hl
  rw [lg_entry_eq]
  refine body _ (hX _) ?_ (name_of_methodNamed B.named B.method).1 h (by show E.1 + σ.1 = s.heap.size + 0; omega) s.heap [] _ (by rw [hml]; exact hl) hH va_S.rf
  intro pc' ls' v' σ' H' locs' hz' d' hF' hN' hH' hS'
  intro T hTT XX
  have hle : T.heap.size ≤ s.heap.size + rm.cells := XX.heapSize
  have hsz2 : T.heap.size = E.1 + σ'.1 := pw_size (n0 := s.heap.size) (cells := rm.cells) (by rw [hTT]; exact hH') (by omega) (by rw [hTT]; exact hS'.1) hN' hle
  have hF2 : (v', σ') = out := Option.some.inj hF'
  have hN2 : E.1 + σ'.1 = s.heap.size + rm.cells := hN'
  refine W.zret (v := iI v') (ty := .boolean) B.exec B.bytes hr (by rcases hz' with q | q <;> rw [q] <;> rfl) (fun t ht hW => ⟨⟨iI v', (), rfl, ⟨by rw [← hF2], by rw [← hF2]; show σ'.1 = σ.1 + rm.cells; omega⟩, ?_, ?_, pw_T.moved hW hT⟩, hS'.F ht⟩) hS'.2.2 d' hlocks T hTT XX
  · rw [ht]; show pw_H E out.2 H'; rw [← hF2]; exact hH'
  · rw [ht, ← hTT]; show T.heap.size = E.1 + out.2.1; rw [← hF2]; exact hsz2
theorem pw_entryL {l : Launch} {E : pw_E} {y : MethodName} {cc : ByteArray} {nL : Nat} {rm : Room} {As : List Value} {σ : pw_Sto} {out : Int64 × pw_Sto} {F : Option (Int64 × pw_Sto)} (hy : plainName y.cls = true) (hnl : (lg_sl As).length ≤ nL) (h : F = some out)
    (body : ∀ X : pw_X Int64, pw_Ok X cc y.cls rm nL → pw_RL X cc → X.1.2.2.2.2.2.2.2.2.1.name = y.name → pw_Sp X 0 0 0 (lv_args 0 As) [] σ F) : pw_CL l E y cc nL (some .long) rm As σ out := by
  refine Met.ofW (cc := cc) (maxL := nL) (ret := (some .long)) hy rfl ?_
  intro p e s m args below meth c s₁ B hml hv
  obtain ⟨rfl, hH, hsz, hT⟩ := hv
  have hts := atoms_spec (ws := Cond.code y cc nL (some .long) :: pw_gt) B.pre
  have hlocks := B.notSynchronized
  have hr := B.returns
  have hX : ∀ Q : State → Prop, pw_Ok (((p, l, e, (headSpec (Cond.code y cc nL (some .long) :: pw_gt) rm).room, s, m, (As.map (pw_tr E.1)).toArray, below, meth, c), Q, E, out, rm.cells, rm.slots) : pw_X Int64) cc y.cls rm nL := fun Q => ⟨B.exec, B.bytes, hml, rfl, findClass_of_methodNamed B.named, fun w hw => hts w (List.mem_cons_of_mem _ hw), hT, by show E.1 ≤ s.heap.size; omega, rfl, rfl⟩
  have hl := lv_entry (As.map (pw_tr E.1)) (n := nL) (by rw [pw_sl_len]; exact hnl)
  rw [pw_args] at hl
  rw [lg_entry_eq]
  refine body _ (hX _) ?_ (name_of_methodNamed B.named B.method).1 h (by show E.1 + σ.1 = s.heap.size + 0; omega) s.heap [] _ (by rw [hml]; exact hl) hH va_S.rf
  intro pc' ls' v' σ' H' locs' d' hF' hN' hH' hS'
  intro T hTT XX
  have hle : T.heap.size ≤ s.heap.size + rm.cells := XX.heapSize
  have hsz2 : T.heap.size = E.1 + σ'.1 := pw_size (n0 := s.heap.size) (cells := rm.cells) (by rw [hTT]; exact hH') (by omega) (by rw [hTT]; exact hS'.1) hN' hle
  have hF2 : (v', σ') = out := Option.some.inj hF'
  have hN2 : E.1 + σ'.1 = s.heap.size + rm.cells := hN'
  refine W.lret (v := v') B.exec B.bytes hr (fun t ht hW => ⟨⟨v', (), rfl, ⟨by rw [← hF2], by rw [← hF2]; show σ'.1 = σ.1 + rm.cells; omega⟩, ?_, ?_, pw_T.moved hW hT⟩, hS'.F ht⟩) hS'.2.2 d' hlocks T hTT XX
  · rw [ht]; show pw_H E out.2 H'; rw [← hF2]; exact hH'
  · rw [ht, ← hTT]; show T.heap.size = E.1 + out.2.1; rw [← hF2]; exact hsz2
theorem pw_entryV {l : Launch} {E : pw_E} {y : MethodName} {cc : ByteArray} {nL : Nat} {rm : Room} {As : List Value} {σ : pw_Sto} {out : Unit × pw_Sto} {F : Option (Unit × pw_Sto)} (hy : plainName y.cls = true) (hnl : (lg_sl As).length ≤ nL) (h : F = some out)
    (body : ∀ X : pw_X Unit, pw_Ok X cc y.cls rm nL → pw_RV X cc → X.1.2.2.2.2.2.2.2.2.1.name = y.name → pw_Sp X 0 0 0 (lv_args 0 As) [] σ F) : pw_CV l E y cc nL none rm As σ out := by
  refine Met.ofW (cc := cc) (maxL := nL) (ret := none) hy rfl ?_
  intro p e s m args below meth c s₁ B hml hv
  obtain ⟨rfl, hH, hsz, hT⟩ := hv
  have hts := atoms_spec (ws := Cond.code y cc nL none :: pw_gt) B.pre
  have hlocks := B.notSynchronized
  have hr := B.returns
  have hX : ∀ Q : State → Prop, pw_Ok (((p, l, e, (headSpec (Cond.code y cc nL none :: pw_gt) rm).room, s, m, (As.map (pw_tr E.1)).toArray, below, meth, c), Q, E, out, rm.cells, rm.slots) : pw_X Unit) cc y.cls rm nL := fun Q => ⟨B.exec, B.bytes, hml, rfl, findClass_of_methodNamed B.named, fun w hw => hts w (List.mem_cons_of_mem _ hw), hT, by show E.1 ≤ s.heap.size; omega, rfl, rfl⟩
  have hl := lv_entry (As.map (pw_tr E.1)) (n := nL) (by rw [pw_sl_len]; exact hnl)
  rw [pw_args] at hl
  rw [lg_entry_eq]
  refine body _ (hX _) ?_ (name_of_methodNamed B.named B.method).1 h (by show E.1 + σ.1 = s.heap.size + 0; omega) s.heap [] _ (by rw [hml]; exact hl) hH va_S.rf
  intro pc' ls' σ' H' locs' d' hF' hN' hH' hS'
  intro T hTT XX
  have hle : T.heap.size ≤ s.heap.size + rm.cells := XX.heapSize
  have hsz2 : T.heap.size = E.1 + σ'.1 := pw_size (n0 := s.heap.size) (cells := rm.cells) (by rw [hTT]; exact hH') (by omega) (by rw [hTT]; exact hS'.1) hN' hle
  have hF2 : ((), σ') = out := Option.some.inj hF'
  have hN2 : E.1 + σ'.1 = s.heap.size + rm.cells := hN'
  refine W.vret B.exec B.bytes hr (fun t ht hW => ⟨⟨(), rfl, by rw [← hF2]; show σ'.1 = σ.1 + rm.cells; omega, ?_, ?_, pw_T.moved hW hT⟩, hS'.F ht⟩) hS'.2.2 d' hlocks T hTT XX
  · rw [ht]; show pw_H E out.2 H'; rw [← hF2]; exact hH'
  · rw [ht, ← hTT]; show T.heap.size = E.1 + out.2.1; rw [← hF2]; exact hsz2
def pw_bd {β γ : Type} (f : Option (β × pw_Sto)) (k : β → pw_Sto → Option γ) : Option γ := f.bind (fun q => k q.1 q.2)
theorem pw_gd_of {β : Type} {c o : Nat} {σ : pw_Sto} {F : Option β} {out : β} (h : pw_gd c o σ F = some out) : o < σ.1 ∧ (pw_sh o).1 = c := by
  unfold pw_gd at h
  by_cases q : o < σ.1 ∧ (pw_sh o).1 = c
  · exact q
  · rw [if_neg q] at h; cases h
theorem pw_gd_val {β : Type} {c o : Nat} {σ : pw_Sto} {F : Option β} {out : β} (h : pw_gd c o σ F = some out) : F = some out := by
  have q := pw_gd_of h
  unfold pw_gd at h
  rw [if_pos q] at h
  exact h
def pw_lp {β : Type} (bot : β) (f : β → β) : Nat → β
  | 0 => bot
  | n + 1 => f (pw_lp bot f n)
def pw_Cal (y : MethodName) (cc : ByteArray) (nL : Nat) (ret : Option FieldType) (n : Nat) : Prop := Cond.code y cc nL ret ∈ pw_gt ∧ Cond.initialized y.cls ∈ pw_gt ∧ (y.cls ≠ "java/lang/invoke/MethodHandle" ∧ y.cls ≠ "java/lang/invoke/VarHandle" ∧ (parseMethodDescriptor y.desc).map (fun d => d.parameters.length) = some n)
def pw_CalV (y : MethodName) : Prop := Cond.instanceMethod y ∈ pw_gt ∧ Cond.selects y.cls y y ∈ pw_gt
section PWcall
variable {α : Type} {X : pw_X α} {cc ccy : ByteArray} {own host : String} {rm rmy : Room} {nL nLy n idx cells slots cells' slots' pc : Nat} {L : List (Nat × Value)} {st stk As : List Value} {σ : pw_Sto} {y : MethodName} {ret : Option FieldType} {o ci : Nat} {T : u_T} {N : Nat} {Y : Nat → FieldType}
theorem pw_cat (b : Nat) (st : List Value) : ((st.map (pw_tr b)).map fun v => v.category) = st.map fun v => v.category := by
  rw [List.map_map]
  congr 1
  funext v
  exact pw_tr_cat b v
theorem sp_callVI (hX : pw_Ok X cc own rm nL) {f : Option (Int × pw_Sto)} (hM : ∀ out, f = some out → pw_CI X.1.2.1 X.2.2.1 y ccy nLy ret rmy (.ref o :: As) σ out) (hB : pw_Cal y ccy nLy ret n) (hV : pw_CalV y) (hC : pw_Cl ci y.cls T N Y) (hg : ∀ out, f = some out → o < σ.1 ∧ (pw_sh o).1 = ci) (hw : Cond.methodLink own idx y ∈ pw_gt) (hR : rmy.frames + 1 ≤ rm.frames ∧ 8 + (nLy + 11) + rmy.locals ≤ rm.locals) (hn : As.length = n) (hstk : As.reverse ++ .ref o :: st = stk) (hst : (st.map fun v => v.category).sum ≤ 8) (hcs : cells + rmy.cells ≤ rm.cells ∧ slots + rmy.slots ≤ rm.slots) (hc1 : cells + rmy.cells = cells') (hc2 : slots + rmy.slots = slots') (d : decode cc pc = .ok (.invokevirtual idx, 3)) {g : Int → pw_Sto → Option (α × pw_Sto)} (K : ∀ r σ', pw_Sp X cells' slots' (pc + 3) L (.int (iI r) :: st) σ' (g r σ')) : pw_Sp X cells slots pc L stk σ (pw_bd f g) := by
  unfold pw_bd
  subst hstk
  subst hc1
  subst hc2
  obtain ⟨⟨p, l, e, R, s, m, args, below, meth, c⟩, Q, ⟨b, D, c1, c2, c3⟩, out, mc, ms⟩ := X
  intro hF hN H locs ls hl hH hS
  cases hf : f with
  | none => rw [hf] at hF; cases hF
  | some out' =>
    rw [hf] at hF
    intro TT hTT XX
    have hle : TT.heap.size ≤ s.heap.size + cells := XX.heapSize
    rw [hTT] at hle
    have hsz : H.size = b + σ.1 := pw_size (E := (b, D, c1, c2, c3)) (n0 := s.heap.size) (cells := cells) hH hX.2.2.2.2.2.2.2.1 hS.1 hN hle
    refine va_calli (va_runV (As := As.map (pw_tr b)) (rest := st.map (pw_tr b)) ⟨hX.1, hX.2.1, hX.2.2.1, hX.2.2.2.2.1, hX.2.2.2.2.2.1⟩ (hM out' hf) ⟨callB_of n (hX.2.2.2.2.2.1) (pw_good hB.1) rfl rfl rfl (hX.2.2.2.2.2.1 _ hB.2.1) (hX.2.2.2.2.2.1 _ hw) hB.2.2 (by rw [hX.2.2.2.1]; exact hR), hX.2.2.2.2.2.1 _ hV.1, hX.2.2.2.2.2.1 _ hV.2⟩ ⟨pw_blind, va_recv hX.2.2.2.2.2.2.1.1 hH (ci := ci) (q0 := o) hC.1 (by rw [pw_ws_at (hg out' hf).1, pw_cell_o (hg out' hf).2 hC.2.1]), fun U hU hW => ⟨rfl, by rw [hU]; exact hH, by rw [hU]; exact hsz, pw_T.moved hW hX.2.2.2.2.2.2.1⟩⟩ rfl (by rw [List.length_map]; exact hn) (by rw [← hX.2.2.1]; exact hl.1) (by rw [List.map_append, List.map_reverse]; rfl) (lv_room (by rw [pw_cat]; exact hst)) d (by rw [hX.2.2.2.1]; exact hcs)) hS (fun q _ h => h) (fun q h => h) (fun r u t H1 locs1 ht hvm hw hB hz1 hk1 hS1 => ?_) TT hTT XX
    have hN2 : b + out'.2.1 = s.heap.size + (cells + rmy.cells) := by
      have h9 := hw.2
      have h8 : b + σ.1 = s.heap.size + cells := hN
      omega
    rw [hw.1]
    exact K out'.1 out'.2 hF hN2 H1 locs1 ls hl (by rw [← ht]; exact hB.1) hS1
theorem sp_callVL (hX : pw_Ok X cc own rm nL) {f : Option (Int64 × pw_Sto)} (hM : ∀ out, f = some out → pw_CL X.1.2.1 X.2.2.1 y ccy nLy ret rmy (.ref o :: As) σ out) (hB : pw_Cal y ccy nLy ret n) (hV : pw_CalV y) (hC : pw_Cl ci y.cls T N Y) (hg : ∀ out, f = some out → o < σ.1 ∧ (pw_sh o).1 = ci) (hw : Cond.methodLink own idx y ∈ pw_gt) (hR : rmy.frames + 1 ≤ rm.frames ∧ 8 + (nLy + 11) + rmy.locals ≤ rm.locals) (hn : As.length = n) (hstk : As.reverse ++ .ref o :: st = stk) (hst : (st.map fun v => v.category).sum ≤ 8) (hcs : cells + rmy.cells ≤ rm.cells ∧ slots + rmy.slots ≤ rm.slots) (hc1 : cells + rmy.cells = cells') (hc2 : slots + rmy.slots = slots') (d : decode cc pc = .ok (.invokevirtual idx, 3)) {g : Int64 → pw_Sto → Option (α × pw_Sto)} (K : ∀ r σ', pw_Sp X cells' slots' (pc + 3) L (.long r :: st) σ' (g r σ')) : pw_Sp X cells slots pc L stk σ (pw_bd f g) := by
  unfold pw_bd
  subst hstk
  subst hc1
  subst hc2
  obtain ⟨⟨p, l, e, R, s, m, args, below, meth, c⟩, Q, ⟨b, D, c1, c2, c3⟩, out, mc, ms⟩ := X
  intro hF hN H locs ls hl hH hS
  cases hf : f with
  | none => rw [hf] at hF; cases hF
  | some out' =>
    rw [hf] at hF
    intro TT hTT XX
    have hle : TT.heap.size ≤ s.heap.size + cells := XX.heapSize
    rw [hTT] at hle
    have hsz : H.size = b + σ.1 := pw_size (E := (b, D, c1, c2, c3)) (n0 := s.heap.size) (cells := cells) hH hX.2.2.2.2.2.2.2.1 hS.1 hN hle
    refine va_calll (va_runV (As := As.map (pw_tr b)) (rest := st.map (pw_tr b)) ⟨hX.1, hX.2.1, hX.2.2.1, hX.2.2.2.2.1, hX.2.2.2.2.2.1⟩ (hM out' hf) ⟨callB_of n (hX.2.2.2.2.2.1) (pw_good hB.1) rfl rfl rfl (hX.2.2.2.2.2.1 _ hB.2.1) (hX.2.2.2.2.2.1 _ hw) hB.2.2 (by rw [hX.2.2.2.1]; exact hR), hX.2.2.2.2.2.1 _ hV.1, hX.2.2.2.2.2.1 _ hV.2⟩ ⟨pw_blind, va_recv hX.2.2.2.2.2.2.1.1 hH (ci := ci) (q0 := o) hC.1 (by rw [pw_ws_at (hg out' hf).1, pw_cell_o (hg out' hf).2 hC.2.1]), fun U hU hW => ⟨rfl, by rw [hU]; exact hH, by rw [hU]; exact hsz, pw_T.moved hW hX.2.2.2.2.2.2.1⟩⟩ rfl (by rw [List.length_map]; exact hn) (by rw [← hX.2.2.1]; exact hl.1) (by rw [List.map_append, List.map_reverse]; rfl) (lv_room (by rw [pw_cat]; exact hst)) d (by rw [hX.2.2.2.1]; exact hcs)) hS (fun q _ h => h) (fun q h => h) (fun r u t H1 locs1 ht hvm hw hB hz1 hk1 hS1 => ?_) TT hTT XX
    have hN2 : b + out'.2.1 = s.heap.size + (cells + rmy.cells) := by
      have h9 := hw.2
      have h8 : b + σ.1 = s.heap.size + cells := hN
      omega
    rw [hw.1]
    exact K out'.1 out'.2 hF hN2 H1 locs1 ls hl (by rw [← ht]; exact hB.1) hS1
theorem sp_callVV (hX : pw_Ok X cc own rm nL) {f : Option (Unit × pw_Sto)} (hM : ∀ out, f = some out → pw_CV X.1.2.1 X.2.2.1 y ccy nLy ret rmy (.ref o :: As) σ out) (hB : pw_Cal y ccy nLy ret n) (hV : pw_CalV y) (hC : pw_Cl ci y.cls T N Y) (hg : ∀ out, f = some out → o < σ.1 ∧ (pw_sh o).1 = ci) (hw : Cond.methodLink own idx y ∈ pw_gt) (hR : rmy.frames + 1 ≤ rm.frames ∧ 8 + (nLy + 11) + rmy.locals ≤ rm.locals) (hn : As.length = n) (hstk : As.reverse ++ .ref o :: st = stk) (hst : (st.map fun v => v.category).sum ≤ 8) (hcs : cells + rmy.cells ≤ rm.cells ∧ slots + rmy.slots ≤ rm.slots) (hc1 : cells + rmy.cells = cells') (hc2 : slots + rmy.slots = slots') (d : decode cc pc = .ok (.invokevirtual idx, 3)) {g : Unit → pw_Sto → Option (α × pw_Sto)} (K : ∀ σ', pw_Sp X cells' slots' (pc + 3) L (st) σ' (g () σ')) : pw_Sp X cells slots pc L stk σ (pw_bd f g) := by
  unfold pw_bd
  subst hstk
  subst hc1
  subst hc2
  obtain ⟨⟨p, l, e, R, s, m, args, below, meth, c⟩, Q, ⟨b, D, c1, c2, c3⟩, out, mc, ms⟩ := X
  intro hF hN H locs ls hl hH hS
  cases hf : f with
  | none => rw [hf] at hF; cases hF
  | some out' =>
    rw [hf] at hF
    intro TT hTT XX
    have hle : TT.heap.size ≤ s.heap.size + cells := XX.heapSize
    rw [hTT] at hle
    have hsz : H.size = b + σ.1 := pw_size (E := (b, D, c1, c2, c3)) (n0 := s.heap.size) (cells := cells) hH hX.2.2.2.2.2.2.2.1 hS.1 hN hle
    refine va_callv (va_runV (As := As.map (pw_tr b)) (rest := st.map (pw_tr b)) ⟨hX.1, hX.2.1, hX.2.2.1, hX.2.2.2.2.1, hX.2.2.2.2.2.1⟩ (hM out' hf) ⟨callB_of n (hX.2.2.2.2.2.1) (pw_good hB.1) rfl rfl rfl (hX.2.2.2.2.2.1 _ hB.2.1) (hX.2.2.2.2.2.1 _ hw) hB.2.2 (by rw [hX.2.2.2.1]; exact hR), hX.2.2.2.2.2.1 _ hV.1, hX.2.2.2.2.2.1 _ hV.2⟩ ⟨pw_blind, va_recv hX.2.2.2.2.2.2.1.1 hH (ci := ci) (q0 := o) hC.1 (by rw [pw_ws_at (hg out' hf).1, pw_cell_o (hg out' hf).2 hC.2.1]), fun U hU hW => ⟨rfl, by rw [hU]; exact hH, by rw [hU]; exact hsz, pw_T.moved hW hX.2.2.2.2.2.2.1⟩⟩ rfl (by rw [List.length_map]; exact hn) (by rw [← hX.2.2.1]; exact hl.1) (by rw [List.map_append, List.map_reverse]; rfl) (lv_room (by rw [pw_cat]; exact hst)) d (by rw [hX.2.2.2.1]; exact hcs)) hS (fun q _ h => h) (fun q h => h) (fun u t H1 locs1 ht hvm hw hB hz1 hk1 hS1 => ?_) TT hTT XX
    have hN2 : b + out'.2.1 = s.heap.size + (cells + rmy.cells) := by
      have h9 := hw
      have h8 : b + σ.1 = s.heap.size + cells := hN
      omega
    exact K out'.2 hF hN2 H1 locs1 ls hl (by rw [← ht]; exact hB.1) hS1
theorem sp_callVIN (hX : pw_Ok X cc own rm nL) {f : Option (Int × pw_Sto)} (hM : ∀ out, f = some out → pw_CI X.1.2.1 X.2.2.1 y ccy nLy ret rmy (.ref o :: As) σ out) (hB : pw_Cal y ccy nLy ret n) (hV : pw_CalV y) (hC : pw_Cl ci y.cls T N Y) (hg : ∀ out, f = some out → o < σ.1 ∧ (pw_sh o).1 = ci) (hw : Cond.methodLinkNest own idx y host ∈ pw_nest) (hR : rmy.frames + 1 ≤ rm.frames ∧ 8 + (nLy + 11) + rmy.locals ≤ rm.locals) (hn : As.length = n) (hstk : As.reverse ++ .ref o :: st = stk) (hst : (st.map fun v => v.category).sum ≤ 8) (hcs : cells + rmy.cells ≤ rm.cells ∧ slots + rmy.slots ≤ rm.slots) (hc1 : cells + rmy.cells = cells') (hc2 : slots + rmy.slots = slots') (d : decode cc pc = .ok (.invokevirtual idx, 3)) {g : Int → pw_Sto → Option (α × pw_Sto)} (K : ∀ r σ', pw_Sp X cells' slots' (pc + 3) L (.int (iI r) :: st) σ' (g r σ')) : pw_Sp X cells slots pc L stk σ (pw_bd f g) := by
  unfold pw_bd
  subst hstk
  subst hc1
  subst hc2
  obtain ⟨⟨p, l, e, R, s, m, args, below, meth, c⟩, Q, ⟨b, D, c1, c2, c3⟩, out, mc, ms⟩ := X
  intro hF hN H locs ls hl hH hS
  cases hf : f with
  | none => rw [hf] at hF; cases hF
  | some out' =>
    rw [hf] at hF
    intro TT hTT XX
    have hle : TT.heap.size ≤ s.heap.size + cells := XX.heapSize
    rw [hTT] at hle
    have hsz : H.size = b + σ.1 := pw_size (E := (b, D, c1, c2, c3)) (n0 := s.heap.size) (cells := cells) hH hX.2.2.2.2.2.2.2.1 hS.1 hN hle
    refine va_calli (va_runVN (As := As.map (pw_tr b)) (rest := st.map (pw_tr b)) ⟨hX.1, hX.2.1, hX.2.2.1, hX.2.2.2.2.1, hX.2.2.2.2.2.1⟩ (hM out' hf) ⟨va_cnB n (hX.2.2.2.2.2.1) (pw_good hB.1) rfl rfl rfl (hX.2.2.2.2.2.2.1.2 _ hw) (hX.2.2.2.2.2.1 _ hB.2.1) hB.2.2 (by rw [hX.2.2.2.1]; exact hR), hX.2.2.2.2.2.1 _ hV.1, hX.2.2.2.2.2.1 _ hV.2⟩ ⟨pw_blind, va_recv hX.2.2.2.2.2.2.1.1 hH (ci := ci) (q0 := o) hC.1 (by rw [pw_ws_at (hg out' hf).1, pw_cell_o (hg out' hf).2 hC.2.1]), fun U hU hW => ⟨rfl, by rw [hU]; exact hH, by rw [hU]; exact hsz, pw_T.moved hW hX.2.2.2.2.2.2.1⟩⟩ rfl (by rw [List.length_map]; exact hn) (by rw [← hX.2.2.1]; exact hl.1) (by rw [List.map_append, List.map_reverse]; rfl) (lv_room (by rw [pw_cat]; exact hst)) d (by rw [hX.2.2.2.1]; exact hcs)) hS (fun q _ h => h) (fun q h => h) (fun r u t H1 locs1 ht hvm hw hB hz1 hk1 hS1 => ?_) TT hTT XX
    have hN2 : b + out'.2.1 = s.heap.size + (cells + rmy.cells) := by
      have h9 := hw.2
      have h8 : b + σ.1 = s.heap.size + cells := hN
      omega
    rw [hw.1]
    exact K out'.1 out'.2 hF hN2 H1 locs1 ls hl (by rw [← ht]; exact hB.1) hS1
theorem sp_callVLN (hX : pw_Ok X cc own rm nL) {f : Option (Int64 × pw_Sto)} (hM : ∀ out, f = some out → pw_CL X.1.2.1 X.2.2.1 y ccy nLy ret rmy (.ref o :: As) σ out) (hB : pw_Cal y ccy nLy ret n) (hV : pw_CalV y) (hC : pw_Cl ci y.cls T N Y) (hg : ∀ out, f = some out → o < σ.1 ∧ (pw_sh o).1 = ci) (hw : Cond.methodLinkNest own idx y host ∈ pw_nest) (hR : rmy.frames + 1 ≤ rm.frames ∧ 8 + (nLy + 11) + rmy.locals ≤ rm.locals) (hn : As.length = n) (hstk : As.reverse ++ .ref o :: st = stk) (hst : (st.map fun v => v.category).sum ≤ 8) (hcs : cells + rmy.cells ≤ rm.cells ∧ slots + rmy.slots ≤ rm.slots) (hc1 : cells + rmy.cells = cells') (hc2 : slots + rmy.slots = slots') (d : decode cc pc = .ok (.invokevirtual idx, 3)) {g : Int64 → pw_Sto → Option (α × pw_Sto)} (K : ∀ r σ', pw_Sp X cells' slots' (pc + 3) L (.long r :: st) σ' (g r σ')) : pw_Sp X cells slots pc L stk σ (pw_bd f g) := by
  unfold pw_bd
  subst hstk
  subst hc1
  subst hc2
  obtain ⟨⟨p, l, e, R, s, m, args, below, meth, c⟩, Q, ⟨b, D, c1, c2, c3⟩, out, mc, ms⟩ := X
  intro hF hN H locs ls hl hH hS
  cases hf : f with
  | none => rw [hf] at hF; cases hF
  | some out' =>
    rw [hf] at hF
    intro TT hTT XX
    have hle : TT.heap.size ≤ s.heap.size + cells := XX.heapSize
    rw [hTT] at hle
    have hsz : H.size = b + σ.1 := pw_size (E := (b, D, c1, c2, c3)) (n0 := s.heap.size) (cells := cells) hH hX.2.2.2.2.2.2.2.1 hS.1 hN hle
    refine va_calll (va_runVN (As := As.map (pw_tr b)) (rest := st.map (pw_tr b)) ⟨hX.1, hX.2.1, hX.2.2.1, hX.2.2.2.2.1, hX.2.2.2.2.2.1⟩ (hM out' hf) ⟨va_cnB n (hX.2.2.2.2.2.1) (pw_good hB.1) rfl rfl rfl (hX.2.2.2.2.2.2.1.2 _ hw) (hX.2.2.2.2.2.1 _ hB.2.1) hB.2.2 (by rw [hX.2.2.2.1]; exact hR), hX.2.2.2.2.2.1 _ hV.1, hX.2.2.2.2.2.1 _ hV.2⟩ ⟨pw_blind, va_recv hX.2.2.2.2.2.2.1.1 hH (ci := ci) (q0 := o) hC.1 (by rw [pw_ws_at (hg out' hf).1, pw_cell_o (hg out' hf).2 hC.2.1]), fun U hU hW => ⟨rfl, by rw [hU]; exact hH, by rw [hU]; exact hsz, pw_T.moved hW hX.2.2.2.2.2.2.1⟩⟩ rfl (by rw [List.length_map]; exact hn) (by rw [← hX.2.2.1]; exact hl.1) (by rw [List.map_append, List.map_reverse]; rfl) (lv_room (by rw [pw_cat]; exact hst)) d (by rw [hX.2.2.2.1]; exact hcs)) hS (fun q _ h => h) (fun q h => h) (fun r u t H1 locs1 ht hvm hw hB hz1 hk1 hS1 => ?_) TT hTT XX
    have hN2 : b + out'.2.1 = s.heap.size + (cells + rmy.cells) := by
      have h9 := hw.2
      have h8 : b + σ.1 = s.heap.size + cells := hN
      omega
    rw [hw.1]
    exact K out'.1 out'.2 hF hN2 H1 locs1 ls hl (by rw [← ht]; exact hB.1) hS1
theorem sp_callVVN (hX : pw_Ok X cc own rm nL) {f : Option (Unit × pw_Sto)} (hM : ∀ out, f = some out → pw_CV X.1.2.1 X.2.2.1 y ccy nLy ret rmy (.ref o :: As) σ out) (hB : pw_Cal y ccy nLy ret n) (hV : pw_CalV y) (hC : pw_Cl ci y.cls T N Y) (hg : ∀ out, f = some out → o < σ.1 ∧ (pw_sh o).1 = ci) (hw : Cond.methodLinkNest own idx y host ∈ pw_nest) (hR : rmy.frames + 1 ≤ rm.frames ∧ 8 + (nLy + 11) + rmy.locals ≤ rm.locals) (hn : As.length = n) (hstk : As.reverse ++ .ref o :: st = stk) (hst : (st.map fun v => v.category).sum ≤ 8) (hcs : cells + rmy.cells ≤ rm.cells ∧ slots + rmy.slots ≤ rm.slots) (hc1 : cells + rmy.cells = cells') (hc2 : slots + rmy.slots = slots') (d : decode cc pc = .ok (.invokevirtual idx, 3)) {g : Unit → pw_Sto → Option (α × pw_Sto)} (K : ∀ σ', pw_Sp X cells' slots' (pc + 3) L (st) σ' (g () σ')) : pw_Sp X cells slots pc L stk σ (pw_bd f g) := by
  unfold pw_bd
  subst hstk
  subst hc1
  subst hc2
  obtain ⟨⟨p, l, e, R, s, m, args, below, meth, c⟩, Q, ⟨b, D, c1, c2, c3⟩, out, mc, ms⟩ := X
  intro hF hN H locs ls hl hH hS
  cases hf : f with
  | none => rw [hf] at hF; cases hF
  | some out' =>
    rw [hf] at hF
    intro TT hTT XX
    have hle : TT.heap.size ≤ s.heap.size + cells := XX.heapSize
    rw [hTT] at hle
    have hsz : H.size = b + σ.1 := pw_size (E := (b, D, c1, c2, c3)) (n0 := s.heap.size) (cells := cells) hH hX.2.2.2.2.2.2.2.1 hS.1 hN hle
    refine va_callv (va_runVN (As := As.map (pw_tr b)) (rest := st.map (pw_tr b)) ⟨hX.1, hX.2.1, hX.2.2.1, hX.2.2.2.2.1, hX.2.2.2.2.2.1⟩ (hM out' hf) ⟨va_cnB n (hX.2.2.2.2.2.1) (pw_good hB.1) rfl rfl rfl (hX.2.2.2.2.2.2.1.2 _ hw) (hX.2.2.2.2.2.1 _ hB.2.1) hB.2.2 (by rw [hX.2.2.2.1]; exact hR), hX.2.2.2.2.2.1 _ hV.1, hX.2.2.2.2.2.1 _ hV.2⟩ ⟨pw_blind, va_recv hX.2.2.2.2.2.2.1.1 hH (ci := ci) (q0 := o) hC.1 (by rw [pw_ws_at (hg out' hf).1, pw_cell_o (hg out' hf).2 hC.2.1]), fun U hU hW => ⟨rfl, by rw [hU]; exact hH, by rw [hU]; exact hsz, pw_T.moved hW hX.2.2.2.2.2.2.1⟩⟩ rfl (by rw [List.length_map]; exact hn) (by rw [← hX.2.2.1]; exact hl.1) (by rw [List.map_append, List.map_reverse]; rfl) (lv_room (by rw [pw_cat]; exact hst)) d (by rw [hX.2.2.2.1]; exact hcs)) hS (fun q _ h => h) (fun q h => h) (fun u t H1 locs1 ht hvm hw hB hz1 hk1 hS1 => ?_) TT hTT XX
    have hN2 : b + out'.2.1 = s.heap.size + (cells + rmy.cells) := by
      have h9 := hw
      have h8 : b + σ.1 = s.heap.size + cells := hN
      omega
    exact K out'.2 hF hN2 H1 locs1 ls hl (by rw [← ht]; exact hB.1) hS1
theorem sp_callSI (hX : pw_Ok X cc own rm nL) {f : Option (Int × pw_Sto)} (hM : ∀ out, f = some out → pw_CI X.1.2.1 X.2.2.1 y ccy nLy ret rmy As σ out) (hB : pw_Cal y ccy nLy ret n) (hV : Cond.static y ∈ pw_gt) (hw : Cond.methodLink own idx y ∈ pw_gt) (hR : rmy.frames + 1 ≤ rm.frames ∧ 8 + (nLy + 11) + rmy.locals ≤ rm.locals) (hn : As.length = n) (hstk : As.reverse ++ st = stk) (hst : (st.map fun v => v.category).sum ≤ 8) (hcs : cells + rmy.cells ≤ rm.cells ∧ slots + rmy.slots ≤ rm.slots) (hc1 : cells + rmy.cells = cells') (hc2 : slots + rmy.slots = slots') (d : decode cc pc = .ok (.invokestatic idx, 3)) {g : Int → pw_Sto → Option (α × pw_Sto)} (K : ∀ r σ', pw_Sp X cells' slots' (pc + 3) L (.int (iI r) :: st) σ' (g r σ')) : pw_Sp X cells slots pc L stk σ (pw_bd f g) := by
  unfold pw_bd
  subst hstk
  subst hc1
  subst hc2
  obtain ⟨⟨p, l, e, R, s, m, args, below, meth, c⟩, Q, ⟨b, D, c1, c2, c3⟩, out, mc, ms⟩ := X
  intro hF hN H locs ls hl hH hS
  cases hf : f with
  | none => rw [hf] at hF; cases hF
  | some out' =>
    rw [hf] at hF
    intro TT hTT XX
    have hle : TT.heap.size ≤ s.heap.size + cells := XX.heapSize
    rw [hTT] at hle
    have hsz : H.size = b + σ.1 := pw_size (E := (b, D, c1, c2, c3)) (n0 := s.heap.size) (cells := cells) hH hX.2.2.2.2.2.2.2.1 hS.1 hN hle
    refine va_calli (va_runS (As := As.map (pw_tr b)) (rest := st.map (pw_tr b)) ⟨hX.1, hX.2.1, hX.2.2.1, hX.2.2.2.2.1, hX.2.2.2.2.2.1⟩ (hM out' hf) ⟨callB_of n (hX.2.2.2.2.2.1) (pw_good hB.1) rfl rfl rfl (hX.2.2.2.2.2.1 _ hB.2.1) (hX.2.2.2.2.2.1 _ hw) hB.2.2 (by rw [hX.2.2.2.1]; exact hR), hX.2.2.2.2.2.1 _ hV⟩ ⟨pw_blind, fun U hU hW => ⟨rfl, by rw [hU]; exact hH, by rw [hU]; exact hsz, pw_T.moved hW hX.2.2.2.2.2.2.1⟩⟩ rfl (by rw [List.length_map]; exact hn) (by rw [← hX.2.2.1]; exact hl.1) (by rw [List.map_append, List.map_reverse]) (lv_room (by rw [pw_cat]; exact hst)) d (by rw [hX.2.2.2.1]; exact hcs)) hS (fun q _ h => h) (fun q h => h) (fun r u t H1 locs1 ht hvm hw hB hz1 hk1 hS1 => ?_) TT hTT XX
    have hN2 : b + out'.2.1 = s.heap.size + (cells + rmy.cells) := by
      have h9 := hw.2
      have h8 : b + σ.1 = s.heap.size + cells := hN
      omega
    rw [hw.1]
    exact K out'.1 out'.2 hF hN2 H1 locs1 ls hl (by rw [← ht]; exact hB.1) hS1
theorem sp_callSL (hX : pw_Ok X cc own rm nL) {f : Option (Int64 × pw_Sto)} (hM : ∀ out, f = some out → pw_CL X.1.2.1 X.2.2.1 y ccy nLy ret rmy As σ out) (hB : pw_Cal y ccy nLy ret n) (hV : Cond.static y ∈ pw_gt) (hw : Cond.methodLink own idx y ∈ pw_gt) (hR : rmy.frames + 1 ≤ rm.frames ∧ 8 + (nLy + 11) + rmy.locals ≤ rm.locals) (hn : As.length = n) (hstk : As.reverse ++ st = stk) (hst : (st.map fun v => v.category).sum ≤ 8) (hcs : cells + rmy.cells ≤ rm.cells ∧ slots + rmy.slots ≤ rm.slots) (hc1 : cells + rmy.cells = cells') (hc2 : slots + rmy.slots = slots') (d : decode cc pc = .ok (.invokestatic idx, 3)) {g : Int64 → pw_Sto → Option (α × pw_Sto)} (K : ∀ r σ', pw_Sp X cells' slots' (pc + 3) L (.long r :: st) σ' (g r σ')) : pw_Sp X cells slots pc L stk σ (pw_bd f g) := by
  unfold pw_bd
  subst hstk
  subst hc1
  subst hc2
  obtain ⟨⟨p, l, e, R, s, m, args, below, meth, c⟩, Q, ⟨b, D, c1, c2, c3⟩, out, mc, ms⟩ := X
  intro hF hN H locs ls hl hH hS
  cases hf : f with
  | none => rw [hf] at hF; cases hF
  | some out' =>
    rw [hf] at hF
    intro TT hTT XX
    have hle : TT.heap.size ≤ s.heap.size + cells := XX.heapSize
    rw [hTT] at hle
    have hsz : H.size = b + σ.1 := pw_size (E := (b, D, c1, c2, c3)) (n0 := s.heap.size) (cells := cells) hH hX.2.2.2.2.2.2.2.1 hS.1 hN hle
    refine va_calll (va_runS (As := As.map (pw_tr b)) (rest := st.map (pw_tr b)) ⟨hX.1, hX.2.1, hX.2.2.1, hX.2.2.2.2.1, hX.2.2.2.2.2.1⟩ (hM out' hf) ⟨callB_of n (hX.2.2.2.2.2.1) (pw_good hB.1) rfl rfl rfl (hX.2.2.2.2.2.1 _ hB.2.1) (hX.2.2.2.2.2.1 _ hw) hB.2.2 (by rw [hX.2.2.2.1]; exact hR), hX.2.2.2.2.2.1 _ hV⟩ ⟨pw_blind, fun U hU hW => ⟨rfl, by rw [hU]; exact hH, by rw [hU]; exact hsz, pw_T.moved hW hX.2.2.2.2.2.2.1⟩⟩ rfl (by rw [List.length_map]; exact hn) (by rw [← hX.2.2.1]; exact hl.1) (by rw [List.map_append, List.map_reverse]) (lv_room (by rw [pw_cat]; exact hst)) d (by rw [hX.2.2.2.1]; exact hcs)) hS (fun q _ h => h) (fun q h => h) (fun r u t H1 locs1 ht hvm hw hB hz1 hk1 hS1 => ?_) TT hTT XX
    have hN2 : b + out'.2.1 = s.heap.size + (cells + rmy.cells) := by
      have h9 := hw.2
      have h8 : b + σ.1 = s.heap.size + cells := hN
      omega
    rw [hw.1]
    exact K out'.1 out'.2 hF hN2 H1 locs1 ls hl (by rw [← ht]; exact hB.1) hS1
theorem sp_callSV (hX : pw_Ok X cc own rm nL) {f : Option (Unit × pw_Sto)} (hM : ∀ out, f = some out → pw_CV X.1.2.1 X.2.2.1 y ccy nLy ret rmy As σ out) (hB : pw_Cal y ccy nLy ret n) (hV : Cond.static y ∈ pw_gt) (hw : Cond.methodLink own idx y ∈ pw_gt) (hR : rmy.frames + 1 ≤ rm.frames ∧ 8 + (nLy + 11) + rmy.locals ≤ rm.locals) (hn : As.length = n) (hstk : As.reverse ++ st = stk) (hst : (st.map fun v => v.category).sum ≤ 8) (hcs : cells + rmy.cells ≤ rm.cells ∧ slots + rmy.slots ≤ rm.slots) (hc1 : cells + rmy.cells = cells') (hc2 : slots + rmy.slots = slots') (d : decode cc pc = .ok (.invokestatic idx, 3)) {g : Unit → pw_Sto → Option (α × pw_Sto)} (K : ∀ σ', pw_Sp X cells' slots' (pc + 3) L (st) σ' (g () σ')) : pw_Sp X cells slots pc L stk σ (pw_bd f g) := by
  unfold pw_bd
  subst hstk
  subst hc1
  subst hc2
  obtain ⟨⟨p, l, e, R, s, m, args, below, meth, c⟩, Q, ⟨b, D, c1, c2, c3⟩, out, mc, ms⟩ := X
  intro hF hN H locs ls hl hH hS
  cases hf : f with
  | none => rw [hf] at hF; cases hF
  | some out' =>
    rw [hf] at hF
    intro TT hTT XX
    have hle : TT.heap.size ≤ s.heap.size + cells := XX.heapSize
    rw [hTT] at hle
    have hsz : H.size = b + σ.1 := pw_size (E := (b, D, c1, c2, c3)) (n0 := s.heap.size) (cells := cells) hH hX.2.2.2.2.2.2.2.1 hS.1 hN hle
    refine va_callv (va_runS (As := As.map (pw_tr b)) (rest := st.map (pw_tr b)) ⟨hX.1, hX.2.1, hX.2.2.1, hX.2.2.2.2.1, hX.2.2.2.2.2.1⟩ (hM out' hf) ⟨callB_of n (hX.2.2.2.2.2.1) (pw_good hB.1) rfl rfl rfl (hX.2.2.2.2.2.1 _ hB.2.1) (hX.2.2.2.2.2.1 _ hw) hB.2.2 (by rw [hX.2.2.2.1]; exact hR), hX.2.2.2.2.2.1 _ hV⟩ ⟨pw_blind, fun U hU hW => ⟨rfl, by rw [hU]; exact hH, by rw [hU]; exact hsz, pw_T.moved hW hX.2.2.2.2.2.2.1⟩⟩ rfl (by rw [List.length_map]; exact hn) (by rw [← hX.2.2.1]; exact hl.1) (by rw [List.map_append, List.map_reverse]) (lv_room (by rw [pw_cat]; exact hst)) d (by rw [hX.2.2.2.1]; exact hcs)) hS (fun q _ h => h) (fun q h => h) (fun u t H1 locs1 ht hvm hw hB hz1 hk1 hS1 => ?_) TT hTT XX
    have hN2 : b + out'.2.1 = s.heap.size + (cells + rmy.cells) := by
      have h9 := hw
      have h8 : b + σ.1 = s.heap.size + cells := hN
      omega
    exact K out'.2 hF hN2 H1 locs1 ls hl (by rw [← ht]; exact hB.1) hS1
theorem sp_callSIN (hX : pw_Ok X cc own rm nL) {f : Option (Int × pw_Sto)} (hM : ∀ out, f = some out → pw_CI X.1.2.1 X.2.2.1 y ccy nLy ret rmy As σ out) (hB : pw_Cal y ccy nLy ret n) (hV : Cond.static y ∈ pw_gt) (hw : Cond.methodLinkNest own idx y host ∈ pw_nest) (hR : rmy.frames + 1 ≤ rm.frames ∧ 8 + (nLy + 11) + rmy.locals ≤ rm.locals) (hn : As.length = n) (hstk : As.reverse ++ st = stk) (hst : (st.map fun v => v.category).sum ≤ 8) (hcs : cells + rmy.cells ≤ rm.cells ∧ slots + rmy.slots ≤ rm.slots) (hc1 : cells + rmy.cells = cells') (hc2 : slots + rmy.slots = slots') (d : decode cc pc = .ok (.invokestatic idx, 3)) {g : Int → pw_Sto → Option (α × pw_Sto)} (K : ∀ r σ', pw_Sp X cells' slots' (pc + 3) L (.int (iI r) :: st) σ' (g r σ')) : pw_Sp X cells slots pc L stk σ (pw_bd f g) := by
  unfold pw_bd
  subst hstk
  subst hc1
  subst hc2
  obtain ⟨⟨p, l, e, R, s, m, args, below, meth, c⟩, Q, ⟨b, D, c1, c2, c3⟩, out, mc, ms⟩ := X
  intro hF hN H locs ls hl hH hS
  cases hf : f with
  | none => rw [hf] at hF; cases hF
  | some out' =>
    rw [hf] at hF
    intro TT hTT XX
    have hle : TT.heap.size ≤ s.heap.size + cells := XX.heapSize
    rw [hTT] at hle
    have hsz : H.size = b + σ.1 := pw_size (E := (b, D, c1, c2, c3)) (n0 := s.heap.size) (cells := cells) hH hX.2.2.2.2.2.2.2.1 hS.1 hN hle
    refine va_calli (va_runSN (As := As.map (pw_tr b)) (rest := st.map (pw_tr b)) ⟨hX.1, hX.2.1, hX.2.2.1, hX.2.2.2.2.1, hX.2.2.2.2.2.1⟩ (hM out' hf) ⟨va_cnB n (hX.2.2.2.2.2.1) (pw_good hB.1) rfl rfl rfl (hX.2.2.2.2.2.2.1.2 _ hw) (hX.2.2.2.2.2.1 _ hB.2.1) hB.2.2 (by rw [hX.2.2.2.1]; exact hR), hX.2.2.2.2.2.1 _ hV, trivial⟩ ⟨pw_blind, fun U hU hW => ⟨rfl, by rw [hU]; exact hH, by rw [hU]; exact hsz, pw_T.moved hW hX.2.2.2.2.2.2.1⟩⟩ rfl (by rw [List.length_map]; exact hn) (by rw [← hX.2.2.1]; exact hl.1) (by rw [List.map_append, List.map_reverse]) (lv_room (by rw [pw_cat]; exact hst)) d (by rw [hX.2.2.2.1]; exact hcs)) hS (fun q _ h => h) (fun q h => h) (fun r u t H1 locs1 ht hvm hw hB hz1 hk1 hS1 => ?_) TT hTT XX
    have hN2 : b + out'.2.1 = s.heap.size + (cells + rmy.cells) := by
      have h9 := hw.2
      have h8 : b + σ.1 = s.heap.size + cells := hN
      omega
    rw [hw.1]
    exact K out'.1 out'.2 hF hN2 H1 locs1 ls hl (by rw [← ht]; exact hB.1) hS1
theorem sp_callSLN (hX : pw_Ok X cc own rm nL) {f : Option (Int64 × pw_Sto)} (hM : ∀ out, f = some out → pw_CL X.1.2.1 X.2.2.1 y ccy nLy ret rmy As σ out) (hB : pw_Cal y ccy nLy ret n) (hV : Cond.static y ∈ pw_gt) (hw : Cond.methodLinkNest own idx y host ∈ pw_nest) (hR : rmy.frames + 1 ≤ rm.frames ∧ 8 + (nLy + 11) + rmy.locals ≤ rm.locals) (hn : As.length = n) (hstk : As.reverse ++ st = stk) (hst : (st.map fun v => v.category).sum ≤ 8) (hcs : cells + rmy.cells ≤ rm.cells ∧ slots + rmy.slots ≤ rm.slots) (hc1 : cells + rmy.cells = cells') (hc2 : slots + rmy.slots = slots') (d : decode cc pc = .ok (.invokestatic idx, 3)) {g : Int64 → pw_Sto → Option (α × pw_Sto)} (K : ∀ r σ', pw_Sp X cells' slots' (pc + 3) L (.long r :: st) σ' (g r σ')) : pw_Sp X cells slots pc L stk σ (pw_bd f g) := by
  unfold pw_bd
  subst hstk
  subst hc1
  subst hc2
  obtain ⟨⟨p, l, e, R, s, m, args, below, meth, c⟩, Q, ⟨b, D, c1, c2, c3⟩, out, mc, ms⟩ := X
  intro hF hN H locs ls hl hH hS
  cases hf : f with
  | none => rw [hf] at hF; cases hF
  | some out' =>
    rw [hf] at hF
    intro TT hTT XX
    have hle : TT.heap.size ≤ s.heap.size + cells := XX.heapSize
    rw [hTT] at hle
    have hsz : H.size = b + σ.1 := pw_size (E := (b, D, c1, c2, c3)) (n0 := s.heap.size) (cells := cells) hH hX.2.2.2.2.2.2.2.1 hS.1 hN hle
    refine va_calll (va_runSN (As := As.map (pw_tr b)) (rest := st.map (pw_tr b)) ⟨hX.1, hX.2.1, hX.2.2.1, hX.2.2.2.2.1, hX.2.2.2.2.2.1⟩ (hM out' hf) ⟨va_cnB n (hX.2.2.2.2.2.1) (pw_good hB.1) rfl rfl rfl (hX.2.2.2.2.2.2.1.2 _ hw) (hX.2.2.2.2.2.1 _ hB.2.1) hB.2.2 (by rw [hX.2.2.2.1]; exact hR), hX.2.2.2.2.2.1 _ hV, trivial⟩ ⟨pw_blind, fun U hU hW => ⟨rfl, by rw [hU]; exact hH, by rw [hU]; exact hsz, pw_T.moved hW hX.2.2.2.2.2.2.1⟩⟩ rfl (by rw [List.length_map]; exact hn) (by rw [← hX.2.2.1]; exact hl.1) (by rw [List.map_append, List.map_reverse]) (lv_room (by rw [pw_cat]; exact hst)) d (by rw [hX.2.2.2.1]; exact hcs)) hS (fun q _ h => h) (fun q h => h) (fun r u t H1 locs1 ht hvm hw hB hz1 hk1 hS1 => ?_) TT hTT XX
    have hN2 : b + out'.2.1 = s.heap.size + (cells + rmy.cells) := by
      have h9 := hw.2
      have h8 : b + σ.1 = s.heap.size + cells := hN
      omega
    rw [hw.1]
    exact K out'.1 out'.2 hF hN2 H1 locs1 ls hl (by rw [← ht]; exact hB.1) hS1
theorem sp_callSVN (hX : pw_Ok X cc own rm nL) {f : Option (Unit × pw_Sto)} (hM : ∀ out, f = some out → pw_CV X.1.2.1 X.2.2.1 y ccy nLy ret rmy As σ out) (hB : pw_Cal y ccy nLy ret n) (hV : Cond.static y ∈ pw_gt) (hw : Cond.methodLinkNest own idx y host ∈ pw_nest) (hR : rmy.frames + 1 ≤ rm.frames ∧ 8 + (nLy + 11) + rmy.locals ≤ rm.locals) (hn : As.length = n) (hstk : As.reverse ++ st = stk) (hst : (st.map fun v => v.category).sum ≤ 8) (hcs : cells + rmy.cells ≤ rm.cells ∧ slots + rmy.slots ≤ rm.slots) (hc1 : cells + rmy.cells = cells') (hc2 : slots + rmy.slots = slots') (d : decode cc pc = .ok (.invokestatic idx, 3)) {g : Unit → pw_Sto → Option (α × pw_Sto)} (K : ∀ σ', pw_Sp X cells' slots' (pc + 3) L (st) σ' (g () σ')) : pw_Sp X cells slots pc L stk σ (pw_bd f g) := by
  unfold pw_bd
  subst hstk
  subst hc1
  subst hc2
  obtain ⟨⟨p, l, e, R, s, m, args, below, meth, c⟩, Q, ⟨b, D, c1, c2, c3⟩, out, mc, ms⟩ := X
  intro hF hN H locs ls hl hH hS
  cases hf : f with
  | none => rw [hf] at hF; cases hF
  | some out' =>
    rw [hf] at hF
    intro TT hTT XX
    have hle : TT.heap.size ≤ s.heap.size + cells := XX.heapSize
    rw [hTT] at hle
    have hsz : H.size = b + σ.1 := pw_size (E := (b, D, c1, c2, c3)) (n0 := s.heap.size) (cells := cells) hH hX.2.2.2.2.2.2.2.1 hS.1 hN hle
    refine va_callv (va_runSN (As := As.map (pw_tr b)) (rest := st.map (pw_tr b)) ⟨hX.1, hX.2.1, hX.2.2.1, hX.2.2.2.2.1, hX.2.2.2.2.2.1⟩ (hM out' hf) ⟨va_cnB n (hX.2.2.2.2.2.1) (pw_good hB.1) rfl rfl rfl (hX.2.2.2.2.2.2.1.2 _ hw) (hX.2.2.2.2.2.1 _ hB.2.1) hB.2.2 (by rw [hX.2.2.2.1]; exact hR), hX.2.2.2.2.2.1 _ hV, trivial⟩ ⟨pw_blind, fun U hU hW => ⟨rfl, by rw [hU]; exact hH, by rw [hU]; exact hsz, pw_T.moved hW hX.2.2.2.2.2.2.1⟩⟩ rfl (by rw [List.length_map]; exact hn) (by rw [← hX.2.2.1]; exact hl.1) (by rw [List.map_append, List.map_reverse]) (lv_room (by rw [pw_cat]; exact hst)) d (by rw [hX.2.2.2.1]; exact hcs)) hS (fun q _ h => h) (fun q h => h) (fun u t H1 locs1 ht hvm hw hB hz1 hk1 hS1 => ?_) TT hTT XX
    have hN2 : b + out'.2.1 = s.heap.size + (cells + rmy.cells) := by
      have h9 := hw
      have h8 : b + σ.1 = s.heap.size + cells := hN
      omega
    exact K out'.2 hF hN2 H1 locs1 ls hl (by rw [← ht]; exact hB.1) hS1
theorem sp_callIV (hX : pw_Ok X cc own rm nL) {f : Option (Unit × pw_Sto)} (hM : ∀ out, f = some out → pw_CV X.1.2.1 X.2.2.1 y ccy nLy none rmy (.ref o :: As) σ out) (hB : pw_Cal y ccy nLy none n) (hV : Cond.instanceMethod y ∈ pw_gt) (hnm : y.name = "<init>") (hw : Cond.methodLink own idx y ∈ pw_gt) (hR : rmy.frames + 1 ≤ rm.frames ∧ 8 + (nLy + 11) + rmy.locals ≤ rm.locals) (hn : As.length = n) (hstk : As.reverse ++ .ref o :: st = stk) (hst : (st.map fun v => v.category).sum ≤ 8) (hcs : cells + rmy.cells ≤ rm.cells ∧ slots + rmy.slots ≤ rm.slots) (hc1 : cells + rmy.cells = cells') (hc2 : slots + rmy.slots = slots') (d : decode cc pc = .ok (.invokespecial idx, 3)) {g : Unit → pw_Sto → Option (α × pw_Sto)} (K : ∀ σ', pw_Sp X cells' slots' (pc + 3) L (st) σ' (g () σ')) : pw_Sp X cells slots pc L stk σ (pw_bd f g) := by
  unfold pw_bd
  subst hstk
  subst hc1
  subst hc2
  obtain ⟨⟨p, l, e, R, s, m, args, below, meth, c⟩, Q, ⟨b, D, c1, c2, c3⟩, out, mc, ms⟩ := X
  intro hF hN H locs ls hl hH hS
  cases hf : f with
  | none => rw [hf] at hF; cases hF
  | some out' =>
    rw [hf] at hF
    intro TT hTT XX
    have hle : TT.heap.size ≤ s.heap.size + cells := XX.heapSize
    rw [hTT] at hle
    have hsz : H.size = b + σ.1 := pw_size (E := (b, D, c1, c2, c3)) (n0 := s.heap.size) (cells := cells) hH hX.2.2.2.2.2.2.2.1 hS.1 hN hle
    refine va_callv (va_runI (As := As.map (pw_tr b)) (rest := st.map (pw_tr b)) ⟨hX.1, hX.2.1, hX.2.2.1, hX.2.2.2.2.1, hX.2.2.2.2.2.1⟩ (hM out' hf) ⟨callB_of n (hX.2.2.2.2.2.1) (pw_good hB.1) rfl rfl rfl (hX.2.2.2.2.2.1 _ hB.2.1) (hX.2.2.2.2.2.1 _ hw) hB.2.2 (by rw [hX.2.2.2.1]; exact hR), hnm, hX.2.2.2.2.2.1 _ hV⟩ ⟨pw_blind, fun U hU hW => ⟨rfl, by rw [hU]; exact hH, by rw [hU]; exact hsz, pw_T.moved hW hX.2.2.2.2.2.2.1⟩⟩ rfl (by rw [List.length_map]; exact hn) (by rw [← hX.2.2.1]; exact hl.1) (by rw [List.map_append, List.map_reverse]; rfl) (lv_room (by rw [pw_cat]; exact hst)) d (by rw [hX.2.2.2.1]; exact hcs)) hS (fun q _ h => h) (fun q h => h) (fun u t H1 locs1 ht hvm hw hB hz1 hk1 hS1 => ?_) TT hTT XX
    have hN2 : b + out'.2.1 = s.heap.size + (cells + rmy.cells) := by
      have h9 := hw
      have h8 : b + σ.1 = s.heap.size + cells := hN
      omega
    exact K out'.2 hF hN2 H1 locs1 ls hl (by rw [← ht]; exact hB.1) hS1
theorem sp_callIVN (hX : pw_Ok X cc own rm nL) {f : Option (Unit × pw_Sto)} (hM : ∀ out, f = some out → pw_CV X.1.2.1 X.2.2.1 y ccy nLy none rmy (.ref o :: As) σ out) (hB : pw_Cal y ccy nLy none n) (hV : Cond.instanceMethod y ∈ pw_gt) (hnm : y.name = "<init>") (hw : Cond.methodLinkNest own idx y host ∈ pw_nest) (hR : rmy.frames + 1 ≤ rm.frames ∧ 8 + (nLy + 11) + rmy.locals ≤ rm.locals) (hn : As.length = n) (hstk : As.reverse ++ .ref o :: st = stk) (hst : (st.map fun v => v.category).sum ≤ 8) (hcs : cells + rmy.cells ≤ rm.cells ∧ slots + rmy.slots ≤ rm.slots) (hc1 : cells + rmy.cells = cells') (hc2 : slots + rmy.slots = slots') (d : decode cc pc = .ok (.invokespecial idx, 3)) {g : Unit → pw_Sto → Option (α × pw_Sto)} (K : ∀ σ', pw_Sp X cells' slots' (pc + 3) L (st) σ' (g () σ')) : pw_Sp X cells slots pc L stk σ (pw_bd f g) := by
  unfold pw_bd
  subst hstk
  subst hc1
  subst hc2
  obtain ⟨⟨p, l, e, R, s, m, args, below, meth, c⟩, Q, ⟨b, D, c1, c2, c3⟩, out, mc, ms⟩ := X
  intro hF hN H locs ls hl hH hS
  cases hf : f with
  | none => rw [hf] at hF; cases hF
  | some out' =>
    rw [hf] at hF
    intro TT hTT XX
    have hle : TT.heap.size ≤ s.heap.size + cells := XX.heapSize
    rw [hTT] at hle
    have hsz : H.size = b + σ.1 := pw_size (E := (b, D, c1, c2, c3)) (n0 := s.heap.size) (cells := cells) hH hX.2.2.2.2.2.2.2.1 hS.1 hN hle
    refine va_callv (va_runIN (As := As.map (pw_tr b)) (rest := st.map (pw_tr b)) ⟨hX.1, hX.2.1, hX.2.2.1, hX.2.2.2.2.1, hX.2.2.2.2.2.1⟩ (hM out' hf) ⟨va_cnB n (hX.2.2.2.2.2.1) (pw_good hB.1) rfl rfl rfl (hX.2.2.2.2.2.2.1.2 _ hw) (hX.2.2.2.2.2.1 _ hB.2.1) hB.2.2 (by rw [hX.2.2.2.1]; exact hR), hnm, hX.2.2.2.2.2.1 _ hV⟩ ⟨pw_blind, fun U hU hW => ⟨rfl, by rw [hU]; exact hH, by rw [hU]; exact hsz, pw_T.moved hW hX.2.2.2.2.2.2.1⟩⟩ rfl (by rw [List.length_map]; exact hn) (by rw [← hX.2.2.1]; exact hl.1) (by rw [List.map_append, List.map_reverse]; rfl) (lv_room (by rw [pw_cat]; exact hst)) d (by rw [hX.2.2.2.1]; exact hcs)) hS (fun q _ h => h) (fun q h => h) (fun u t H1 locs1 ht hvm hw hB hz1 hk1 hS1 => ?_) TT hTT XX
    have hN2 : b + out'.2.1 = s.heap.size + (cells + rmy.cells) := by
      have h9 := hw
      have h8 : b + σ.1 = s.heap.size + cells := hN
      omega
    exact K out'.2 hF hN2 H1 locs1 ls hl (by rw [← ht]; exact hB.1) hS1
end PWcall
end
section
/-! ## making cells -/
def pw_new (n : Nat) (σ : pw_Sto) (r : Nat → Nat → Option Nat) : pw_Sto := (σ.1 + n, (fun i => if i < σ.1 then σ.2.1 i else (fun _ => 0)), (fun i => if i < σ.1 then σ.2.2 i else r i))
def pw_nw (c : Nat) (σ : pw_Sto) : Option (Nat × pw_Sto) := if (pw_sh σ.1).1 = c then some (σ.1, pw_new 1 σ (fun _ _ => none)) else none
def pw_na (n : Nat) (σ : pw_Sto) : Option (Nat × pw_Sto) := if pw_sh σ.1 = (11, n) then some (σ.1, pw_new 1 σ (fun _ _ => none)) else none
def pw_nq (n : Nat) (σ : pw_Sto) : Option (Nat × pw_Sto) := if pw_sh σ.1 = (12, n) then some (σ.1, pw_new 1 σ (fun _ _ => none)) else none
def pw_nm (n k : Nat) (σ : pw_Sto) : Option (Nat × pw_Sto) := if k ≤ 344 ∧ pw_sh σ.1 = (13, n) ∧ ∀ j, j < n → pw_sh (σ.1 + 1 + j) = (11, k) then some (σ.1, pw_new (1 + n) σ (fun i j => if i = σ.1 then (if j < n then some (σ.1 + 1 + j) else none) else none)) else none
theorem pw_cell_new {E : pw_E} {σ : pw_Sto} {n : Nat} {r : Nat → Nat → Option Nat} {j : Nat} (h : j < σ.1) : pw_cell E (pw_new n σ r) j = pw_cell E σ j := pw_cell_ne (if_pos h) (if_pos h)
theorem pw_P_new {E : pw_E} {σ : pw_Sto} {n : Nat} {r : Nat → Nat → Option Nat} {H H1 : Heap} (hP : pw_H E σ H) (ho : ∀ q, q < H.size → H1[q]? = H[q]?) (hn : ∀ j, j < n → va_at E.2.1 pw_cl (E.1 + (σ.1 + j), pw_cell E (pw_new n σ r) (σ.1 + j)) H1) : pw_H E (pw_new n σ r) H1 := by
  intro k q hk
  unfold pw_ws at hk
  rw [List.getElem?_map] at hk
  by_cases h : k < (pw_new n σ r).1
  · rw [List.getElem?_range h] at hk
    cases hk
    by_cases h2 : k < σ.1
    · show va_at E.2.1 pw_cl (E.1 + k, pw_cell E (pw_new n σ r) k) H1
      rw [pw_cell_new h2]
      have h3 := hP k _ (pw_ws_at h2)
      exact h3.kept (ho _ h3.lt)
    · have h4 : k < σ.1 + n := h
      have h5 := hn (k - σ.1) (by omega)
      rw [show σ.1 + (k - σ.1) = k by omega] at h5
      exact h5
  · rw [List.getElem?_eq_none (by rw [List.length_range]; omega)] at hk
    cases hk
section PWnew
variable {α : Type} {X : pw_X α} {cc : ByteArray} {own : String} {rm : Room} {nL idx cells slots slots' pc : Nat} {L : List (Nat × Value)} {st : List Value} {σ : pw_Sto} {ci : Nat} {C : String} {T : u_T} {N : Nat} {Y : Nat → FieldType}
theorem sp_objInit (hX : pw_Ok X cc own rm nL) {F : Option (α × pw_Sto)} {o : Nat} (h1 : Cond.methodLink own idx objectInit ∈ pw_gt) (h2 : Cond.instanceMethod objectInit ∈ pw_gt) (h3 : Cond.code objectInit ⟨#[0xb1]⟩ 1 none ∈ pw_gt) (hfr : 1 ≤ rm.frames) (hlo : (st.map fun v => v.category).sum + 12 ≤ rm.locals) (d : decode cc pc = .ok (.invokespecial idx, 3)) (K : pw_Sp X cells slots (pc + 3) L st σ F) : pw_Sp X cells slots pc L (.ref o :: st) σ F := by
  obtain ⟨⟨p, l, e, R, s, m, args, below, meth, c⟩, Q, ⟨b, D, c1, c2, c3⟩, out, mc, ms⟩ := X
  intro hF hN H locs ls hl hH hS
  refine W.objInit hX.1 hX.2.1 hX.2.2.2.2.1 (hX.2.2.2.2.2.1 _ h1) (hX.2.2.2.2.2.1 _ h2) (hX.2.2.2.2.2.1 _ h3) rfl hl.1 rfl d (by rw [hX.2.2.2.1]; exact hfr) ?_ (K hF hN H locs ls hl hH hS)
  show 2 * 0 + ((st.map (pw_tr b)).map fun v => v.category).sum + 12 ≤ R.locals
  rw [pw_cat, show R = rm from hX.2.2.2.1]
  omega
theorem sp_new (hX : pw_Ok X cc own rm nL) (hC : pw_Cl ci C T N Y) (hd : ∀ j, j < N → defaultValue (Y j) = (match (pw_ft ci)[j]? with | some true => .int 0 | _ => .null)) (h1 : Cond.classLink own idx C ∈ pw_gt) (h2 : Cond.instantiable C N ∈ pw_gt) (h3 : Cond.initialized C ∈ pw_gt) (hc : cells + 1 ≤ rm.cells) (hs : slots + N ≤ rm.slots) (hs' : slots + N = slots') (d : decode cc pc = .ok (.new idx, 3)) {g : Nat → pw_Sto → Option (α × pw_Sto)} (K : ∀ q σ', pw_Sp X (cells + 1) slots' (pc + 3) L (.ref q :: st) σ' (g q σ')) : pw_Sp X cells slots pc L st σ (pw_bd (pw_nw ci σ) g) := by
  unfold pw_bd
  subst hs'
  obtain ⟨⟨p, l, e, R, s, m, args, below, meth, c⟩, Q, ⟨b, D, c1, c2, c3⟩, out, mc, ms⟩ := X
  intro hF hN H locs ls hl hH hS
  by_cases h : (pw_sh σ.1).1 = ci
  · rw [pw_nw, if_pos h] at hF
    intro TT hTT XX
    have hle : TT.heap.size ≤ s.heap.size + cells := XX.heapSize
    rw [hTT] at hle
    have hsz : H.size = b + σ.1 := pw_size (E := (b, D, c1, c2, c3)) (n0 := s.heap.size) (cells := cells) hH hX.2.2.2.2.2.2.2.1 hS.1 hN hle
    have hKn := hX.2.2.2.2.2.2.1.1.1 ci _ hC.1
    refine W.newcK (g := F0 m pc ls (st.map (pw_tr b))) hX.1 hX.2.1 hX.2.2.2.2.1 (hX.2.2.2.2.2.1 _ h1) (hX.2.2.2.2.2.1 _ h2) (hX.2.2.2.2.2.1 _ h3) rfl d (by rw [hX.2.2.2.1]; exact hc) (by rw [hX.2.2.2.1]; exact hs) hKn.2.1 rfl (fun H1 kC hkC e1 z1 o1 => ?_) TT hTT XX
    have hP1 : pw_H (b, D, c1, c2, c3) (pw_new 1 σ (fun _ _ => none)) H1 := by
      refine pw_P_new hH o1 (fun j hj => ?_)
      have hj0 : j = 0 := by omega
      subst hj0
      rw [Nat.add_zero, pw_cell_o h hC.2.1]
      refine ⟨_, hC.1, ?_⟩
      have hb := (u_born Y (ws := pw_gt) hX.2.2.2.2.2.1 hC.2.2.1 hKn hkC e1 hC.2.2.2.1)
      rw [hsz] at hb
      refine hb.to (fun j hj => ?_)
      rw [hd j hj]
      unfold vp_V
      rw [List.getD_eq_getElem?_getD]
      cases ht : (pw_ft ci)[j]? with
      | none =>
        have := List.getElem?_eq_none_iff.mp ht
        rw [hC.2.2.2.2.2] at this
        omega
      | some t =>
        rw [pw_flds_at ht]
        cases t
        · show Value.null = va_rf (Option.map _ ((pw_new 1 σ (fun _ _ => none)).2.2 σ.1 j))
          show Value.null = va_rf (Option.map _ ((if σ.1 < σ.1 then σ.2.2 σ.1 else (fun _ => none)) j))
          rw [if_neg (Nat.lt_irrefl _)]
          rfl
        · show Value.int 0 = Value.int (iI ((if σ.1 < σ.1 then σ.2.1 σ.1 else (fun _ => 0)) j))
          rw [if_neg (Nat.lt_irrefl _)]
          rfl
    have hk := K σ.1 (pw_new 1 σ (fun _ _ => none)) hF (by show b + (σ.1 + 1) = s.heap.size + (cells + 1); have h8 : b + σ.1 = s.heap.size + cells := hN; omega) H1 locs ls hl hP1 ⟨Nat.le_trans hS.1 (by omega), fun x h1 h2 => (o1 x (Nat.lt_of_lt_of_le h1 hS.1)).trans (hS.2.1 x h1 h2), hS.2.2⟩
    rw [hsz]
    exact hk
  · rw [pw_nw, if_neg h] at hF; cases hF
theorem sp_newa (hX : pw_Ok X cc own rm nL) {n : Nat} (h1 : Cond.arrayClass .int ∈ pw_gt) (hc : cells + 1 ≤ rm.cells) (hs : slots + n ≤ rm.slots) (hs' : slots + n = slots') (d : decode cc pc = .ok (.newarray .int, 2)) {g : Nat → pw_Sto → Option (α × pw_Sto)} (K : ∀ q σ', pw_Sp X (cells + 1) slots' (pc + 2) L (.ref q :: st) σ' (g q σ')) : pw_Sp X cells slots pc L (.int (iI n) :: st) σ (pw_bd (pw_na n σ) g) := by
  unfold pw_bd
  subst hs'
  obtain ⟨⟨p, l, e, R, s, m, args, below, meth, c⟩, Q, ⟨b, D, c1, c2, c3⟩, out, mc, ms⟩ := X
  intro hF hN H locs ls hl hH hS
  by_cases h : pw_sh σ.1 = (11, n)
  · rw [pw_na, if_pos h] at hF
    intro TT hTT XX
    have hle : TT.heap.size ≤ s.heap.size + cells := XX.heapSize
    rw [hTT] at hle
    have hsz : H.size = b + σ.1 := pw_size (E := (b, D, c1, c2, c3)) (n0 := s.heap.size) (cells := cells) hH hX.2.2.2.2.2.2.2.1 hS.1 hN hle
    have hlen : n ≤ 344 := by
      have := pw_sh_le σ.1
      rw [h] at this
      exact this
    have hrn : pw_R (n : Int) := ⟨by omega, by omega⟩
    have hn0 : ¬ iI n < 0 := fun q => by have := (iI_lt (x := n) (y := 0) hrn (by omega)).mp q; omega
    have h4 : componentBytes (newarray.typeOf .int) = 4 := by rfl
    refine va_newaK (atype := .int) (g := F0 m pc ls (.int (iI n) :: st.map (pw_tr b))) (N := n) hX.1 hX.2.1 (hX.2.2.2.2.2.1 _ h1) rfl d rfl hn0 (by rw [iI_cl hrn]; omega) (by rw [h4]; omega) (by rw [hX.2.2.2.1]; exact hc) (by rw [hX.2.2.2.1]; exact hs) hsz (fun H1 cA e1 z1 o1 hAr hNm => ?_) TT hTT XX
    have hcA : cA = c1 := by
      have h9 := (hX.2.2.2.2.2.2.1.1.2 0 (c1, .int) rfl).2
      exact Option.some.inj (hNm.symm.trans h9)
    subst hcA
    have hP1 : pw_H (b, D, cA, c2, c3) (pw_new 1 σ (fun _ _ => none)) H1 := by
      refine pw_P_new hH (by rw [hsz]; exact o1) (fun j hj => ?_)
      have hj0 : j = 0 := by omega
      subst hj0
      rw [Nat.add_zero, pw_cell_i (by rw [h])]
      show H1[b + σ.1]? = some (vp_cell cA _)
      rw [e1, h]
      show _ = some (vp_cell cA (n, .inl (fun k => iI ((if σ.1 < σ.1 then σ.2.1 σ.1 else (fun _ => 0)) k))))
      rw [if_neg (Nat.lt_irrefl _)]
      rfl
    exact K σ.1 (pw_new 1 σ (fun _ _ => none)) hF (by show b + (σ.1 + 1) = s.heap.size + (cells + 1); have h8 : b + σ.1 = s.heap.size + cells := hN; omega) H1 locs ls hl hP1 ⟨Nat.le_trans hS.1 (by omega), fun x h1 h2 => (o1 x (by have := hS.1; omega)).trans (hS.2.1 x h1 h2), hS.2.2⟩
  · rw [pw_na, if_neg h] at hF; cases hF
theorem sp_newq (hX : pw_Ok X cc own rm nL) {n : Nat} (h1 : Cond.classLink own idx "PadeWorkbench$State" ∈ pw_gt) (hc : cells + 1 ≤ rm.cells) (hs : slots + n ≤ rm.slots) (hs' : slots + n = slots') (d : decode cc pc = .ok (.anewarray idx, 3)) {g : Nat → pw_Sto → Option (α × pw_Sto)} (K : ∀ q σ', pw_Sp X (cells + 1) slots' (pc + 3) L (.ref q :: st) σ' (g q σ')) : pw_Sp X cells slots pc L (.int (iI n) :: st) σ (pw_bd (pw_nq n σ) g) := by
  unfold pw_bd
  subst hs'
  obtain ⟨⟨p, l, e, R, s, m, args, below, meth, c⟩, Q, ⟨b, D, c1, c2, c3⟩, out, mc, ms⟩ := X
  intro hF hN H locs ls hl hH hS
  by_cases h : pw_sh σ.1 = (12, n)
  · rw [pw_nq, if_pos h] at hF
    intro TT hTT XX
    have hle : TT.heap.size ≤ s.heap.size + cells := XX.heapSize
    rw [hTT] at hle
    have hsz : H.size = b + σ.1 := pw_size (E := (b, D, c1, c2, c3)) (n0 := s.heap.size) (cells := cells) hH hX.2.2.2.2.2.2.2.1 hS.1 hN hle
    have hlen : n ≤ 344 := by
      have := pw_sh_le σ.1
      rw [h] at this
      exact this
    have hrn : pw_R (n : Int) := ⟨by omega, by omega⟩
    have hn0 : ¬ iI n < 0 := fun q => by have := (iI_lt (x := n) (y := 0) hrn (by omega)).mp q; omega
    have hnn : (iI n).toNatClampNeg = n := by rw [iI_cl hrn]; omega
    have hov : va_AO "PadeWorkbench$State" s := hX.2.2.2.2.2.2.1.2 (.arrayOver (.object "PadeWorkbench$State")) (List.mem_append_right _ (List.mem_append_right _ (List.mem_map.mpr ⟨_, List.mem_of_getElem? (i := 1) rfl, rfl⟩)))
    refine W.anew (g := F0 m pc ls (.int (iI n) :: st.map (pw_tr b))) hX.1 hX.2.1 hX.2.2.2.2.1 (hX.2.2.2.2.2.1 _ h1) (va_AO.use hov) rfl d rfl hn0 (by rw [hnn]; omega) (by rw [hX.2.2.2.1]; exact hc) (by rw [hX.2.2.2.1, hnn]; exact hs) (fun cA kA comp f1 f2 f3 f4 => ?_) TT hTT XX
    have hcA : cA = c2 := by
      obtain ⟨kA2, comp2, g1, g2, g3, g4⟩ := (hX.2.2.2.2.2.2.1.1.2 1 (c2, .object "PadeWorkbench$State") rfl).2
      exact Option.some.inj (f1.symm.trans g4)
    subst hcA
    rw [hnn]
    generalize hH1 : H.push ({ cls := cA, slots := Array.replicate n .null, vm := .none } : Cell) = H1
    have z1 : H1.size = H.size + 1 := by rw [← hH1, Array.size_push]
    have e1 : H1[H.size]? = some (arrV cA n (fun _ => .null)) := by rw [← hH1, Array.getElem?_push_size, ← arrV_new]
    have o1 : ∀ q : Nat, q < H.size → H1[q]? = H[q]? := fun q hq => by rw [← hH1, Array.getElem?_push, if_neg (Nat.ne_of_lt hq)]
    have hP1 : pw_H (b, D, c1, cA, c3) (pw_new 1 σ (fun _ _ => none)) H1 := by
      refine pw_P_new hH o1 (fun j hj => ?_)
      have hj0 : j = 0 := by omega
      subst hj0
      rw [Nat.add_zero, pw_cell_s (by rw [h])]
      show H1[b + σ.1]? = some (vp_cell cA _)
      rw [← hsz, e1, h, vp_cell_q]
      refine congrArg some (congrArg (arrV cA n) (funext fun j => ?_))
      show Value.null = va_rf (Option.map _ ((if σ.1 < σ.1 then σ.2.2 σ.1 else (fun _ => none)) j))
      rw [if_neg (Nat.lt_irrefl _)]
      rfl
    have hk := K σ.1 (pw_new 1 σ (fun _ _ => none)) hF (by show b + (σ.1 + 1) = s.heap.size + (cells + 1); have h8 : b + σ.1 = s.heap.size + cells := hN; omega) H1 locs ls hl hP1 ⟨Nat.le_trans hS.1 (by omega), fun x h1 h2 => (o1 x (Nat.lt_of_lt_of_le h1 hS.1)).trans (hS.2.1 x h1 h2), hS.2.2⟩
    rw [hsz]
    exact hk
  · rw [pw_nq, if_neg h] at hF; cases hF
theorem sp_aastore (hX : pw_Ok X cc own rm nL) {a v : Nat} {i : Int} (d : decode cc pc = .ok (.aastore, 1)) {g : pw_Sto → Option (α × pw_Sto)} (K : ∀ σ', pw_Sp X cells slots (pc + 1) L st σ' (g σ')) : pw_Sp X cells slots pc L (.ref v :: .int (iI i) :: .ref a :: st) σ ((pw_sr 12 a i 7 v σ).bind g) := by
  obtain ⟨⟨p, l, e, R, s, m, args, below, meth, c⟩, Q, ⟨b, D, c1, c2, c3⟩, out, mc, ms⟩ := X
  intro hF hN H locs ls hl hH hS
  by_cases h : ((a < σ.1 ∧ (pw_sh a).1 = 12) ∧ (0 ≤ i ∧ i < (pw_sh a).2)) ∧ (v < σ.1 ∧ (pw_sh v).1 = 7)
  · rw [pw_sr, if_pos h] at hF
    refine va_astq (D := D) (cl := pw_cl) hX.1 hX.2.1 hX.2.2.2.2.2.2.1.1 hH (pw_ws_D (b, D, c1, c2, c3) σ) hS a 1 v 7 (r := ("PadeWorkbench$State", pw_T7, 5)) (by rw [pw_ws_at h.1.1.1, pw_cell_s h.1.1.2]) rfl (by rw [pw_ws_at h.2.1, pw_cell_o h.2.2 (by decide)]) rfl (pw_vin h.1.2) d (fun H1 locs1 hP1 hD1 hS1 => ?_)
    rw [pw_icl h.1.2] at hP1
    refine K (σ.1, σ.2.1, pw_u2 σ.2.2 a i.toNat (some v)) hF hN H1 locs1 ls hl (pw_va_P_setK (E := (b, D, c1, c2, c3)) (σ := σ) (σ' := (σ.1, σ.2.1, pw_u2 σ.2.2 a i.toNat (some v))) rfl h.1.1.1 (fun j hj => pw_cell_ne rfl (pw_u2_ne hj)) ?_ hP1) hS1
    rw [pw_cell_s h.1.1.2]
    show Sum.inl (_, _, Sum.inr (Sum.inr (Sum.inr (Sum.inr (fun k => Option.map _ (pw_u2 σ.2.2 a i.toNat (some v) a k)))))) = _
    refine congrArg (fun f => Sum.inl (c2, (pw_sh a).2, Sum.inr (Sum.inr (Sum.inr (Sum.inr f))))) (funext fun k => ?_)
    rw [pw_u2_at]
    unfold va_up
    by_cases hk : k = i.toNat
    · rw [if_pos hk, if_pos hk]; rfl
    · rw [if_neg hk, if_neg hk]
  · rw [pw_sr, if_neg h] at hF; cases hF
theorem pw_outer (c : ClassId) (N h0 : Nat) : ∀ i : Nat, Jvm.Free.Multi.outerC c N h0 i = arrV c N (fun j => va_rf (if j < i then some (h0 + 1 + j) else none))
  | 0 => by
    show ({ cls := c, slots := Array.replicate N .null, vm := .none } : Cell) = _
    rw [arrV_new]
    refine congrArg (arrV c N) (funext fun j => ?_)
    simp [va_rf]
  | i + 1 => by
    show (Jvm.Free.Multi.outerC c N h0 i).setSlot i (.ref (h0 + 1 + i)) = _
    rw [pw_outer c N h0 i, arrV_store]
    refine congrArg (arrV c N) (funext fun j => ?_)
    by_cases e : j = i
    · subst e
      simp [updV, va_rf]
    · by_cases h : j < i
      · simp [updV, e, h, Nat.lt_succ_of_lt h]
      · simp [updV, e, h, show ¬ j < i + 1 by omega]
theorem sp_mna (hX : pw_Ok X cc own rm nL) {n k : Nat} {cells' : Nat} (h1 : Cond.arrayClass .int ∈ pw_gt) (h2 : Cond.classLink own idx "[[I" ∈ pw_gt) (hc : cells + (1 + n) ≤ rm.cells) (hs : slots + (n + n * k) ≤ rm.slots) (hc' : cells + 1 + n = cells') (hs' : slots + n + n * k = slots') (d : decode cc pc = .ok (.multianewarray idx 2, 4)) {g : Nat → pw_Sto → Option (α × pw_Sto)} (K : ∀ q σ', pw_Sp X cells' slots' (pc + 4) L (.ref q :: st) σ' (g q σ')) : pw_Sp X cells slots pc L (.int (iI k) :: .int (iI n) :: st) σ (pw_bd (pw_nm n k σ) g) := by
  unfold pw_bd
  subst hs'
  subst hc'
  obtain ⟨⟨p, l, e, R, s, m, args, below, meth, c⟩, Q, ⟨b, D, c1, c2, c3⟩, out, mc, ms⟩ := X
  intro hF hN H locs ls hl hH hS
  by_cases h : k ≤ 344 ∧ pw_sh σ.1 = (13, n) ∧ ∀ j, j < n → pw_sh (σ.1 + 1 + j) = (11, k)
  · rw [pw_nm, if_pos h] at hF
    intro TT hTT XX
    have hle : TT.heap.size ≤ s.heap.size + cells := XX.heapSize
    rw [hTT] at hle
    have hsz : H.size = b + σ.1 := pw_size (E := (b, D, c1, c2, c3)) (n0 := s.heap.size) (cells := cells) hH hX.2.2.2.2.2.2.2.1 hS.1 hN hle
    have hn : n ≤ 344 := by
      have := pw_sh_le σ.1
      rw [h.2.1] at this
      exact this
    have hrn : pw_R (n : Int) := ⟨by omega, by omega⟩
    have hn0 : ¬ iI n < 0 := fun q => by have := (iI_lt (x := n) (y := 0) hrn (by omega)).mp q; omega
    have hnn : (iI n).toNatClampNeg = n := by rw [iI_cl hrn]; omega
    have hkb : k ≤ 344 := h.1
    have hrk : pw_R (k : Int) := ⟨by omega, by omega⟩
    have hk0 : ¬ iI k < 0 := fun q => by have := (iI_lt (x := k) (y := 0) hrk (by omega)).mp q; omega
    have hkk : (iI k).toNatClampNeg = k := by rw [iI_cl hrk]; omega
    have hov : (Cond.arrayOver (.array .int)).before args s = true := hX.2.2.2.2.2.2.1.2 (.arrayOver (.array .int)) (List.mem_append_right _ (List.mem_append_right _ (List.mem_map.mpr ⟨_, List.mem_of_getElem? (i := 0) rfl, rfl⟩)))
    have hRs : R = rm := hX.2.2.2.1
    have hb4 : componentBytes .int = 4 := by rfl
    obtain ⟨vm₁, cA, comp, -, fA, fC, hO, -, X', step⟩ := XX.multianewarray2F hX.1 hX.2.2.2.2.1 (hX.2.2.2.2.2.1 _ h2) hov (hX.2.2.2.2.2.1 _ h1) (g := F0 m pc ls (.int (iI k) :: .int (iI n) :: st.map (pw_tr b))) rfl (by rw [hX.2.1]; exact d) rfl hn0 hk0 (by rw [hnn]; omega) (by rw [hb4, hkk]; omega) (by rw [hkk]; omega) rfl rfl (by rw [hRs, hnn]; exact hc) (by rw [hRs, hnn, hkk]; exact hs)
    rw [hnn, hkk] at X' step
    have ecA : cA = c3 := by
      have h9 := (hX.2.2.2.2.2.2.1.1.2 2 (c3, .array .int) rfl).2
      exact Option.some.inj (fA.symm.trans h9)
    have ecC : comp = c1 := by
      have h9 := (hX.2.2.2.2.2.2.1.1.2 0 (c1, .int) rfl).2
      exact Option.some.inj (fC.symm.trans h9)
    subst ecA
    subst ecC
    have hTh : (TT.setVm vm₁).heap = H := hTT
    generalize hFF : Jvm.Free.Multi.fill (TT.setVm vm₁) cA comp n k (defaultValue .int) n = FF at X' step
    obtain ⟨f1, f2, -, -⟩ := Jvm.Free.Multi.fill_facts (TT.setVm vm₁) cA comp n k (defaultValue .int) n
    rw [hFF, hTh] at f1 f2
    have hold : ∀ x : Nat, x < H.size → FF.heap[x]? = H[x]? := fun x hx => by
      have := Jvm.Free.Multi.fill_old (TT.setVm vm₁) cA comp n k (defaultValue .int) (a := x) (by rw [hTh]; exact hx) n
      rw [hFF, hTh] at this
      exact this
    have hrow : ∀ j : Nat, j < n → FF.heap[H.size + 1 + j]? = some (vp_cell comp (k, .inl (fun _ => iI 0))) := fun j hj => by
      have := Jvm.Free.Multi.fill_inner (TT.setVm vm₁) cA comp n k (defaultValue .int) n j hj
      rw [hFF, hTh] at this
      rw [this]
      refine congrArg some ?_
      show ({ cls := comp, slots := Array.replicate k (.int 0), vm := .none } : Cell) = _
      rw [arrV_new]
      rfl
    rw [pw_outer] at f2
    have hP1 : pw_H (b, D, comp, c2, cA) (pw_new (1 + n) σ (fun i j => if i = σ.1 then (if j < n then some (σ.1 + 1 + j) else none) else none)) FF.heap := by
      refine pw_P_new hH hold (fun j hj => ?_)
      cases j with
      | zero =>
        rw [Nat.add_zero, pw_cell_g (by rw [h.2.1])]
        show FF.heap[b + σ.1]? = some (vp_cell cA _)
        rw [← hsz, f2, h.2.1, vp_cell_q]
        refine congrArg some (congrArg (arrV cA n) (funext fun j => ?_))
        show va_rf (if j < n then some (H.size + 1 + j) else none) = va_rf (Option.map (fun j => b + j) ((if σ.1 < σ.1 then σ.2.2 σ.1 else (fun j => if σ.1 = σ.1 then (if j < n then some (σ.1 + 1 + j) else none) else none)) j))
        rw [if_neg (Nat.lt_irrefl σ.1), if_pos rfl, hsz]
        by_cases hj : j < n
        · rw [if_pos hj, if_pos hj]
          show va_rf (some (b + σ.1 + 1 + j)) = va_rf (some (b + (σ.1 + 1 + j)))
          rw [show b + σ.1 + 1 + j = b + (σ.1 + 1 + j) by omega]
        · rw [if_neg hj, if_neg hj]; rfl
      | succ j =>
        have hj2 : j < n := by omega
        have hs9 := h.2.2 j hj2
        rw [show σ.1 + (j + 1) = σ.1 + 1 + j by omega, pw_cell_i (by rw [hs9])]
        show FF.heap[b + (σ.1 + 1 + j)]? = some (vp_cell comp _)
        rw [show b + (σ.1 + 1 + j) = H.size + 1 + j by omega, hrow j hj2, hs9]
        show _ = some (vp_cell comp (k, .inl (fun q => iI ((if σ.1 + 1 + j < σ.1 then σ.2.1 (σ.1 + 1 + j) else (fun _ => 0)) q))))
        rw [if_neg (by omega)]
    obtain ⟨t, a1, b1⟩ := K σ.1 _ hF (by show b + (σ.1 + (1 + n)) = s.heap.size + (cells + 1 + n); have h8 : b + σ.1 = s.heap.size + cells := hN; omega) FF.heap locs ls hl hP1 ⟨by rw [f1]; have := hS.1; omega, fun x h1 h2 => (hold x (Nat.lt_of_lt_of_le h1 hS.1)).trans (hS.2.1 x h1 h2), hS.2.2⟩ FF rfl X'
    refine ⟨t, step t ?_, b1⟩
    have e9 : TT.heap.size = b + σ.1 := by rw [hTT]; exact hsz
    rw [e9]
    exact a1
  · rw [pw_nm, if_neg h] at hF; cases hF
end PWnew
end
section
def my_Z_init : MethodName := ⟨"PadeWorkbench$State", "<init>", "()V"⟩
def my_H_init : MethodName := ⟨"PadeWorkbench$History", "<init>", "()V"⟩
def my_T_init : MethodName := ⟨"PadeWorkbench$FractionText", "<init>", "()V"⟩
def my_P_init : MethodName := ⟨"PadeWorkbench$Polynomial", "<init>", "()V"⟩
def my_E_init : MethodName := ⟨"PadeWorkbench$Euclid", "<init>", "()V"⟩
def my_R_init : MethodName := ⟨"PadeWorkbench$Fraction", "<init>", "()V"⟩
def my_D_init : MethodName := ⟨"PadeWorkbench$Toeplitz", "<init>", "()V"⟩
def my_Q_init : MethodName := ⟨"PadeWorkbench$Scheme", "<init>", "()V"⟩
def my_B_init : MethodName := ⟨"PadeWorkbench$Register", "<init>", "()V"⟩
def my_W_init : MethodName := ⟨"PadeWorkbench", "<init>", "()V"⟩
def my_W_isPrime : MethodName := ⟨"PadeWorkbench", "isPrime", "(I)Z"⟩
def my_W_fail : MethodName := ⟨"PadeWorkbench", "fail", "(I)I"⟩
def my_Z_copyFrom : MethodName := ⟨"PadeWorkbench$State", "copyFrom", "(LPadeWorkbench$State;)V"⟩
def my_H_keep : MethodName := ⟨"PadeWorkbench$History", "keep", "(LPadeWorkbench$State;)V"⟩
def my_A_fill : MethodName := ⟨"java/util/Arrays", "fill", "([II)V"⟩
def my_Z_restart : MethodName := ⟨"PadeWorkbench$State", "restart", "(I)V"⟩
def my_W_setPrime : MethodName := ⟨"PadeWorkbench", "setPrime", "(I)I"⟩
def my_W_isSlot : MethodName := ⟨"PadeWorkbench", "isSlot", "(I)Z"⟩
def my_W_isTerm : MethodName := ⟨"PadeWorkbench", "isTerm", "(I)Z"⟩
def my_W_isElement : MethodName := ⟨"PadeWorkbench", "isElement", "(I)Z"⟩
def my_W_set : MethodName := ⟨"PadeWorkbench", "set", "(III)I"⟩
def my_W_coefficient : MethodName := ⟨"PadeWorkbench", "coefficient", "(II)I"⟩
def my_K_reduce : MethodName := ⟨"PadeWorkbench$Field", "reduce", "(II)I"⟩
def my_S_sum : MethodName := ⟨"PadeWorkbench$Series", "sum", "([I[I[II)V"⟩
def my_S_countOfNonZero : MethodName := ⟨"PadeWorkbench$Series", "countOfNonZero", "([I)I"⟩
def my_W_store : MethodName := ⟨"PadeWorkbench", "store", "(I)I"⟩
def my_W_add : MethodName := ⟨"PadeWorkbench", "add", "(III)I"⟩
def my_S_product : MethodName := ⟨"PadeWorkbench$Series", "product", "([I[I[II)V"⟩
def my_W_multiply : MethodName := ⟨"PadeWorkbench", "multiply", "(III)I"⟩
def my_K_inverse : MethodName := ⟨"PadeWorkbench$Field", "inverse", "(II)I"⟩
def my_K_times : MethodName := ⟨"PadeWorkbench$Field", "times", "(III)I"⟩
def my_K_negative : MethodName := ⟨"PadeWorkbench$Field", "negative", "(II)I"⟩
def my_S_reciprocal : MethodName := ⟨"PadeWorkbench$Series", "reciprocal", "([I[II)V"⟩
def my_W_invert : MethodName := ⟨"PadeWorkbench", "invert", "(II)I"⟩
def my_W_composeIntoResult : MethodName := ⟨"PadeWorkbench", "composeIntoResult", "([I[I)V"⟩
def my_W_substitute : MethodName := ⟨"PadeWorkbench", "substitute", "(III)I"⟩
def my_S_slope : MethodName := ⟨"PadeWorkbench$Series", "slope", "([I[II)V"⟩
def my_W_derivative : MethodName := ⟨"PadeWorkbench", "derivative", "(II)I"⟩
def my_T_put : MethodName := ⟨"PadeWorkbench$FractionText", "put", "(I)V"⟩
def my_W_append : MethodName := ⟨"PadeWorkbench", "append", "(I)I"⟩
def my_W_clearText : MethodName := ⟨"PadeWorkbench", "clearText", "()I"⟩
def my_T_here : MethodName := ⟨"PadeWorkbench$FractionText", "here", "()I"⟩
def my_T_peek : MethodName := ⟨"PadeWorkbench$FractionText", "peek", "()I"⟩
def my_T_took : MethodName := ⟨"PadeWorkbench$FractionText", "took", "(I)Z"⟩
def my_T_isDigit : MethodName := ⟨"PadeWorkbench$FractionText", "isDigit", "(I)Z"⟩
def my_T_readNumber : MethodName := ⟨"PadeWorkbench$FractionText", "readNumber", "()I"⟩
def my_T_readExponent : MethodName := ⟨"PadeWorkbench$FractionText", "readExponent", "()I"⟩
def my_T_readTerm : MethodName := ⟨"PadeWorkbench$FractionText", "readTerm", "([IZ)Z"⟩
def my_T_readPolynomial : MethodName := ⟨"PadeWorkbench$FractionText", "readPolynomial", "([I)Z"⟩
def my_T_readFraction : MethodName := ⟨"PadeWorkbench$FractionText", "readFraction", "(I)Z"⟩
def my_W_parse : MethodName := ⟨"PadeWorkbench", "parse", "(I)I"⟩
def my_W_isApproximant : MethodName := ⟨"PadeWorkbench", "isApproximant", "(III)Z"⟩
def my_P_becomeZero : MethodName := ⟨"PadeWorkbench$Polynomial", "becomeZero", "()V"⟩
def my_P_becomePower : MethodName := ⟨"PadeWorkbench$Polynomial", "becomePower", "(I)V"⟩
def my_P_measure : MethodName := ⟨"PadeWorkbench$Polynomial", "measure", "()V"⟩
def my_P_becomeStart : MethodName := ⟨"PadeWorkbench$Polynomial", "becomeStart", "([II)V"⟩
def my_E_startCofactors : MethodName := ⟨"PadeWorkbench$Euclid", "startCofactors", "()V"⟩
def my_E_startWithSeries : MethodName := ⟨"PadeWorkbench$Euclid", "startWithSeries", "([III)V"⟩
def my_P_gather : MethodName := ⟨"PadeWorkbench$Polynomial", "gather", "(LPadeWorkbench$Polynomial;III)V"⟩
def my_E_divide : MethodName := ⟨"PadeWorkbench$Euclid", "divide", "()V"⟩
def my_E_followWithCofactors : MethodName := ⟨"PadeWorkbench$Euclid", "followWithCofactors", "()V"⟩
def my_E_runDownTo : MethodName := ⟨"PadeWorkbench$Euclid", "runDownTo", "(I)V"⟩
def my_P_copyFrom : MethodName := ⟨"PadeWorkbench$Polynomial", "copyFrom", "(LPadeWorkbench$Polynomial;)V"⟩
def my_R_take : MethodName := ⟨"PadeWorkbench$Fraction", "take", "(LPadeWorkbench$Polynomial;LPadeWorkbench$Polynomial;)V"⟩
def my_P_valueAt : MethodName := ⟨"PadeWorkbench$Polynomial", "valueAt", "(II)I"⟩
def my_P_divideByRoot : MethodName := ⟨"PadeWorkbench$Polynomial", "divideByRoot", "(II)V"⟩
def my_R_cancelRoot : MethodName := ⟨"PadeWorkbench$Fraction", "cancelRoot", "(II)V"⟩
def my_P_lowest : MethodName := ⟨"PadeWorkbench$Polynomial", "lowest", "()I"⟩
def my_P_scaleBy : MethodName := ⟨"PadeWorkbench$Polynomial", "scaleBy", "(II)V"⟩
def my_R_scale : MethodName := ⟨"PadeWorkbench$Fraction", "scale", "(I)V"⟩
def my_W_approximate : MethodName := ⟨"PadeWorkbench", "approximate", "(III)V"⟩
def my_W_numeratorDegree : MethodName := ⟨"PadeWorkbench", "numeratorDegree", "(III)I"⟩
def my_W_denominatorDegree : MethodName := ⟨"PadeWorkbench", "denominatorDegree", "(III)I"⟩
def my_W_numerator : MethodName := ⟨"PadeWorkbench", "numerator", "(IIII)I"⟩
def my_W_denominator : MethodName := ⟨"PadeWorkbench", "denominator", "(IIII)I"⟩
def my_R_agreement : MethodName := ⟨"PadeWorkbench$Fraction", "agreement", "([II)I"⟩
def my_W_order : MethodName := ⟨"PadeWorkbench", "order", "(III)I"⟩
def my_R_block : MethodName := ⟨"PadeWorkbench$Fraction", "block", "(I)I"⟩
def my_W_blockSize : MethodName := ⟨"PadeWorkbench", "blockSize", "(III)I"⟩
def my_K_over : MethodName := ⟨"PadeWorkbench$Field", "over", "(III)I"⟩
def my_W_evaluate : MethodName := ⟨"PadeWorkbench", "evaluate", "(IIII)I"⟩
def my_W_normalCount : MethodName := ⟨"PadeWorkbench", "normalCount", "(II)I"⟩
def my_D_fill : MethodName := ⟨"PadeWorkbench$Toeplitz", "fill", "([III)V"⟩
def my_D_pivotRow : MethodName := ⟨"PadeWorkbench$Toeplitz", "pivotRow", "(II)I"⟩
def my_D_swapRows : MethodName := ⟨"PadeWorkbench$Toeplitz", "swapRows", "(II)V"⟩
def my_D_clearBelow : MethodName := ⟨"PadeWorkbench$Toeplitz", "clearBelow", "(III)V"⟩
def my_D_valueOf : MethodName := ⟨"PadeWorkbench$Toeplitz", "valueOf", "([IIII)I"⟩
def my_W_determinant : MethodName := ⟨"PadeWorkbench", "determinant", "(III)I"⟩
def my_W_isSchemePlace : MethodName := ⟨"PadeWorkbench", "isSchemePlace", "(III)Z"⟩
def my_Q_ratio : MethodName := ⟨"PadeWorkbench$Scheme", "ratio", "(III)I"⟩
def my_Q_firstColumns : MethodName := ⟨"PadeWorkbench$Scheme", "firstColumns", "([II)V"⟩
def my_Q_nextE : MethodName := ⟨"PadeWorkbench$Scheme", "nextE", "(I)V"⟩
def my_Q_nextQ : MethodName := ⟨"PadeWorkbench$Scheme", "nextQ", "(I)V"⟩
def my_Q_number : MethodName := ⟨"PadeWorkbench$Scheme", "number", "([IIIII)I"⟩
def my_W_quotientDifference : MethodName := ⟨"PadeWorkbench", "quotientDifference", "(IIII)I"⟩
def my_W_quotientCount : MethodName := ⟨"PadeWorkbench", "quotientCount", "(II)I"⟩
def my_W_quotient : MethodName := ⟨"PadeWorkbench", "quotient", "(IIII)I"⟩
def my_B_gapAt : MethodName := ⟨"PadeWorkbench$Register", "gapAt", "([III)I"⟩
def my_B_correct : MethodName := ⟨"PadeWorkbench$Register", "correct", "(III)V"⟩
def my_B_keepOlder : MethodName := ⟨"PadeWorkbench$Register", "keepOlder", "()V"⟩
def my_B_fit : MethodName := ⟨"PadeWorkbench$Register", "fit", "([III)V"⟩
def my_W_complexity : MethodName := ⟨"PadeWorkbench", "complexity", "(II)I"⟩
def my_W_recurrence : MethodName := ⟨"PadeWorkbench", "recurrence", "(III)I"⟩
def my_Z_hasPointAt : MethodName := ⟨"PadeWorkbench$State", "hasPointAt", "(I)Z"⟩
def my_Z_putPoint : MethodName := ⟨"PadeWorkbench$State", "putPoint", "(II)V"⟩
def my_W_addPoint : MethodName := ⟨"PadeWorkbench", "addPoint", "(II)I"⟩
def my_W_clearPoints : MethodName := ⟨"PadeWorkbench", "clearPoints", "()I"⟩
def my_W_isInterpolant : MethodName := ⟨"PadeWorkbench", "isInterpolant", "(I)Z"⟩
def my_P_multiplyByRoot : MethodName := ⟨"PadeWorkbench$Polynomial", "multiplyByRoot", "(II)V"⟩
def my_E_startWithPoints : MethodName := ⟨"PadeWorkbench$Euclid", "startWithPoints", "(LPadeWorkbench$State;)V"⟩
def my_W_interpolate : MethodName := ⟨"PadeWorkbench", "interpolate", "(I)V"⟩
def my_W_interpolant : MethodName := ⟨"PadeWorkbench", "interpolant", "(III)I"⟩
def my_R_passes : MethodName := ⟨"PadeWorkbench$Fraction", "passes", "(III)Z"⟩
def my_W_missedPoints : MethodName := ⟨"PadeWorkbench", "missedPoints", "()I"⟩
def my_W_unattainable : MethodName := ⟨"PadeWorkbench", "unattainable", "(I)I"⟩
def my_H_giveBack : MethodName := ⟨"PadeWorkbench$History", "giveBack", "(LPadeWorkbench$State;)V"⟩
def my_W_undo : MethodName := ⟨"PadeWorkbench", "undo", "()I"⟩
def my_W_errorCount : MethodName := ⟨"PadeWorkbench", "errorCount", "(I)I"⟩
def my_W_mix : MethodName := ⟨"PadeWorkbench", "mix", "(JI)J"⟩
def my_W_mixSeries : MethodName := ⟨"PadeWorkbench", "mixSeries", "(JI)J"⟩
def my_W_mixPoints : MethodName := ⟨"PadeWorkbench", "mixPoints", "(J)J"⟩
def my_W_digest : MethodName := ⟨"PadeWorkbench", "digest", "()J"⟩
def my_M_init : MethodName := ⟨"PadeWorkbenchModel", "<init>", "()V"⟩
def my_M_in : MethodName := ⟨"PadeWorkbenchModel", "in", "(III)Z"⟩
def my_M_fail : MethodName := ⟨"PadeWorkbenchModel", "fail", "(I)I"⟩
def my_M_prime : MethodName := ⟨"PadeWorkbenchModel", "prime", "()I"⟩
def my_M_mod : MethodName := ⟨"PadeWorkbenchModel", "mod", "(I)I"⟩
def my_M_inverse : MethodName := ⟨"PadeWorkbenchModel", "inverse", "(I)I"⟩
def my_M_isPrime : MethodName := ⟨"PadeWorkbenchModel", "isPrime", "(I)Z"⟩
def my_M_isSlot : MethodName := ⟨"PadeWorkbenchModel", "isSlot", "(I)Z"⟩
def my_M_term : MethodName := ⟨"PadeWorkbenchModel", "term", "(II)I"⟩
def my_M_save : MethodName := ⟨"PadeWorkbenchModel", "save", "()V"⟩
def my_M_setPrime : MethodName := ⟨"PadeWorkbenchModel", "setPrime", "(I)I"⟩
def my_M_set : MethodName := ⟨"PadeWorkbenchModel", "set", "(III)I"⟩
def my_M_coefficient : MethodName := ⟨"PadeWorkbenchModel", "coefficient", "(II)I"⟩
def my_M_take : MethodName := ⟨"PadeWorkbenchModel", "take", "(I[I)V"⟩
def my_M_clear : MethodName := ⟨"PadeWorkbenchModel", "clear", "([I)V"⟩
def my_M_store : MethodName := ⟨"PadeWorkbenchModel", "store", "(I)I"⟩
def my_M_makeProduct : MethodName := ⟨"PadeWorkbenchModel", "makeProduct", "()V"⟩
def my_M_makeQuotient : MethodName := ⟨"PadeWorkbenchModel", "makeQuotient", "()V"⟩
def my_M_add : MethodName := ⟨"PadeWorkbenchModel", "add", "(III)I"⟩
def my_M_multiply : MethodName := ⟨"PadeWorkbenchModel", "multiply", "(III)I"⟩
def my_M_invert : MethodName := ⟨"PadeWorkbenchModel", "invert", "(II)I"⟩
def my_M_substitute : MethodName := ⟨"PadeWorkbenchModel", "substitute", "(III)I"⟩
def my_M_derivative : MethodName := ⟨"PadeWorkbenchModel", "derivative", "(II)I"⟩
def my_M_append : MethodName := ⟨"PadeWorkbenchModel", "append", "(I)I"⟩
def my_M_clearText : MethodName := ⟨"PadeWorkbenchModel", "clearText", "()I"⟩
def my_M_here : MethodName := ⟨"PadeWorkbenchModel", "here", "()I"⟩
def my_M_isDigit : MethodName := ⟨"PadeWorkbenchModel", "isDigit", "()Z"⟩
def my_M_skip : MethodName := ⟨"PadeWorkbenchModel", "skip", "()V"⟩
def my_M_readExponent : MethodName := ⟨"PadeWorkbenchModel", "readExponent", "()I"⟩
def my_M_readTerm : MethodName := ⟨"PadeWorkbenchModel", "readTerm", "([II)Z"⟩
def my_M_readPolynomial : MethodName := ⟨"PadeWorkbenchModel", "readPolynomial", "([I)Z"⟩
def my_M_readFraction : MethodName := ⟨"PadeWorkbenchModel", "readFraction", "()Z"⟩
def my_M_parse : MethodName := ⟨"PadeWorkbenchModel", "parse", "(I)I"⟩
def my_M_exchange : MethodName := ⟨"PadeWorkbenchModel", "exchange", "(II)V"⟩
def my_M_lessRow : MethodName := ⟨"PadeWorkbenchModel", "lessRow", "(III)V"⟩
def my_M_rowWith : MethodName := ⟨"PadeWorkbenchModel", "rowWith", "(III)I"⟩
def my_M_reduce : MethodName := ⟨"PadeWorkbenchModel", "reduce", "(II)V"⟩
def my_M_findVector : MethodName := ⟨"PadeWorkbenchModel", "findVector", "(II)V"⟩
def my_M_degree : MethodName := ⟨"PadeWorkbenchModel", "degree", "([I)I"⟩
def my_M_copy : MethodName := ⟨"PadeWorkbenchModel", "copy", "([I[I)V"⟩
def my_M_divide : MethodName := ⟨"PadeWorkbenchModel", "divide", "([I[I[I)V"⟩
def my_M_toLowest : MethodName := ⟨"PadeWorkbenchModel", "toLowest", "()V"⟩
def my_M_valueAt : MethodName := ⟨"PadeWorkbenchModel", "valueAt", "([II)I"⟩
def my_M_isPair : MethodName := ⟨"PadeWorkbenchModel", "isPair", "(III)Z"⟩
def my_M_approximate : MethodName := ⟨"PadeWorkbenchModel", "approximate", "(III)V"⟩
def my_M_orderOf : MethodName := ⟨"PadeWorkbenchModel", "orderOf", "(I)I"⟩
def my_M_sizeOf : MethodName := ⟨"PadeWorkbenchModel", "sizeOf", "(I)I"⟩
def my_M_degreeOrNone : MethodName := ⟨"PadeWorkbenchModel", "degreeOrNone", "([I)I"⟩
def my_M_numeratorDegree : MethodName := ⟨"PadeWorkbenchModel", "numeratorDegree", "(III)I"⟩
def my_M_denominatorDegree : MethodName := ⟨"PadeWorkbenchModel", "denominatorDegree", "(III)I"⟩
def my_M_numerator : MethodName := ⟨"PadeWorkbenchModel", "numerator", "(IIII)I"⟩
def my_M_denominator : MethodName := ⟨"PadeWorkbenchModel", "denominator", "(IIII)I"⟩
def my_M_order : MethodName := ⟨"PadeWorkbenchModel", "order", "(III)I"⟩
def my_M_blockSize : MethodName := ⟨"PadeWorkbenchModel", "blockSize", "(III)I"⟩
def my_M_evaluate : MethodName := ⟨"PadeWorkbenchModel", "evaluate", "(IIII)I"⟩
def my_M_normals : MethodName := ⟨"PadeWorkbenchModel", "normals", "(II)I"⟩
def my_M_normalCount : MethodName := ⟨"PadeWorkbenchModel", "normalCount", "(II)I"⟩
def my_M_determinant : MethodName := ⟨"PadeWorkbenchModel", "determinant", "(III)I"⟩
def my_M_cell : MethodName := ⟨"PadeWorkbenchModel", "cell", "(II)I"⟩
def my_M_findScheme : MethodName := ⟨"PadeWorkbenchModel", "findScheme", "(I)V"⟩
def my_M_quotientDifference : MethodName := ⟨"PadeWorkbenchModel", "quotientDifference", "(IIII)I"⟩
def my_M_isCut : MethodName := ⟨"PadeWorkbenchModel", "isCut", "(II)Z"⟩
def my_M_findQuotients : MethodName := ⟨"PadeWorkbenchModel", "findQuotients", "(III)I"⟩
def my_M_quotientCount : MethodName := ⟨"PadeWorkbenchModel", "quotientCount", "(II)I"⟩
def my_M_quotient : MethodName := ⟨"PadeWorkbenchModel", "quotient", "(IIII)I"⟩
def my_M_isRecurrent : MethodName := ⟨"PadeWorkbenchModel", "isRecurrent", "(III)Z"⟩
def my_M_complexityOf : MethodName := ⟨"PadeWorkbenchModel", "complexityOf", "(II)I"⟩
def my_M_complexity : MethodName := ⟨"PadeWorkbenchModel", "complexity", "(II)I"⟩
def my_M_recurrence : MethodName := ⟨"PadeWorkbenchModel", "recurrence", "(III)I"⟩
def my_M_points : MethodName := ⟨"PadeWorkbenchModel", "points", "()I"⟩
def my_M_addPoint : MethodName := ⟨"PadeWorkbenchModel", "addPoint", "(II)I"⟩
def my_M_clearPoints : MethodName := ⟨"PadeWorkbenchModel", "clearPoints", "()I"⟩
def my_M_interpolate : MethodName := ⟨"PadeWorkbenchModel", "interpolate", "(I)V"⟩
def my_M_missed : MethodName := ⟨"PadeWorkbenchModel", "missed", "(I)I"⟩
def my_M_interpolant : MethodName := ⟨"PadeWorkbenchModel", "interpolant", "(III)I"⟩
def my_M_unattainable : MethodName := ⟨"PadeWorkbenchModel", "unattainable", "(I)I"⟩
def my_M_undo : MethodName := ⟨"PadeWorkbenchModel", "undo", "()I"⟩
def my_M_errorCount : MethodName := ⟨"PadeWorkbenchModel", "errorCount", "(I)I"⟩
def my_M_digest : MethodName := ⟨"PadeWorkbenchModel", "digest", "()J"⟩
abbrev mr_Z_init : Room := { frames := 1, cells := 7, slots := 88, locals := 14 }
abbrev mr_H_init : Room := { frames := 2, cells := 33, slots := 376, locals := 34 }
abbrev mr_T_init : Room := { frames := 1, cells := 3, slots := 112, locals := 14 }
abbrev mr_P_init : Room := { frames := 1, cells := 1, slots := 17, locals := 14 }
abbrev mr_E_init : Room := { frames := 2, cells := 10, slots := 95, locals := 34 }
abbrev mr_R_init : Room := { frames := 2, cells := 4, slots := 38, locals := 34 }
abbrev mr_D_init : Room := { frames := 1, cells := 17, slots := 272, locals := 14 }
abbrev mr_Q_init : Room := { frames := 1, cells := 2, slots := 32, locals := 14 }
abbrev mr_B_init : Room := { frames := 1, cells := 3, slots := 51, locals := 14 }
abbrev mr_W_init : Room := { frames := 3, cells := 90, slots := 1128, locals := 55 }
abbrev mr_W_isPrime : Room := { frames := 0, cells := 0, slots := 0, locals := 0 }
abbrev mr_W_fail : Room := { frames := 0, cells := 0, slots := 0, locals := 0 }
abbrev mr_Z_copyFrom : Room := { frames := 1, cells := 0, slots := 0, locals := 64 }
abbrev mr_H_keep : Room := { frames := 2, cells := 0, slots := 0, locals := 86 }
abbrev mr_A_fill : Room := { frames := 0, cells := 0, slots := 0, locals := 0 }
abbrev mr_Z_restart : Room := { frames := 1, cells := 0, slots := 0, locals := 23 }
abbrev mr_W_setPrime : Room := { frames := 3, cells := 0, slots := 0, locals := 107 }
abbrev mr_W_isSlot : Room := { frames := 0, cells := 0, slots := 0, locals := 0 }
abbrev mr_W_isTerm : Room := { frames := 0, cells := 0, slots := 0, locals := 0 }
abbrev mr_W_isElement : Room := { frames := 0, cells := 0, slots := 0, locals := 0 }
abbrev mr_W_set : Room := { frames := 3, cells := 0, slots := 0, locals := 107 }
abbrev mr_W_coefficient : Room := { frames := 1, cells := 0, slots := 0, locals := 22 }
abbrev mr_K_reduce : Room := { frames := 0, cells := 0, slots := 0, locals := 0 }
abbrev mr_S_sum : Room := { frames := 1, cells := 0, slots := 0, locals := 21 }
abbrev mr_S_countOfNonZero : Room := { frames := 0, cells := 0, slots := 0, locals := 0 }
abbrev mr_W_store : Room := { frames := 3, cells := 0, slots := 0, locals := 107 }
abbrev mr_W_add : Room := { frames := 4, cells := 0, slots := 0, locals := 128 }
abbrev mr_S_product : Room := { frames := 1, cells := 0, slots := 0, locals := 21 }
abbrev mr_W_multiply : Room := { frames := 4, cells := 0, slots := 0, locals := 128 }
abbrev mr_K_inverse : Room := { frames := 1, cells := 0, slots := 0, locals := 21 }
abbrev mr_K_times : Room := { frames := 1, cells := 0, slots := 0, locals := 21 }
abbrev mr_K_negative : Room := { frames := 0, cells := 0, slots := 0, locals := 0 }
abbrev mr_S_reciprocal : Room := { frames := 2, cells := 0, slots := 0, locals := 45 }
abbrev mr_W_invert : Room := { frames := 4, cells := 0, slots := 0, locals := 128 }
abbrev mr_W_composeIntoResult : Room := { frames := 2, cells := 0, slots := 0, locals := 64 }
abbrev mr_W_substitute : Room := { frames := 4, cells := 0, slots := 0, locals := 128 }
abbrev mr_S_slope : Room := { frames := 2, cells := 0, slots := 0, locals := 43 }
abbrev mr_W_derivative : Room := { frames := 4, cells := 0, slots := 0, locals := 128 }
abbrev mr_T_put : Room := { frames := 0, cells := 0, slots := 0, locals := 0 }
abbrev mr_W_append : Room := { frames := 1, cells := 0, slots := 0, locals := 22 }
abbrev mr_W_clearText : Room := { frames := 0, cells := 0, slots := 0, locals := 0 }
abbrev mr_T_here : Room := { frames := 0, cells := 0, slots := 0, locals := 0 }
abbrev mr_T_peek : Room := { frames := 1, cells := 0, slots := 0, locals := 20 }
abbrev mr_T_took : Room := { frames := 2, cells := 0, slots := 0, locals := 40 }
abbrev mr_T_isDigit : Room := { frames := 0, cells := 0, slots := 0, locals := 0 }
abbrev mr_T_readNumber : Room := { frames := 1, cells := 0, slots := 0, locals := 20 }
abbrev mr_T_readExponent : Room := { frames := 2, cells := 0, slots := 0, locals := 40 }
abbrev mr_T_readTerm : Room := { frames := 3, cells := 0, slots := 0, locals := 62 }
abbrev mr_T_readPolynomial : Room := { frames := 4, cells := 0, slots := 0, locals := 88 }
abbrev mr_T_readFraction : Room := { frames := 5, cells := 0, slots := 0, locals := 111 }
abbrev mr_W_parse : Room := { frames := 6, cells := 0, slots := 0, locals := 132 }
abbrev mr_W_isApproximant : Room := { frames := 1, cells := 0, slots := 0, locals := 20 }
abbrev mr_P_becomeZero : Room := { frames := 1, cells := 0, slots := 0, locals := 23 }
abbrev mr_P_becomePower : Room := { frames := 2, cells := 0, slots := 0, locals := 43 }
abbrev mr_P_measure : Room := { frames := 0, cells := 0, slots := 0, locals := 0 }
abbrev mr_P_becomeStart : Room := { frames := 2, cells := 0, slots := 0, locals := 43 }
abbrev mr_E_startCofactors : Room := { frames := 3, cells := 0, slots := 0, locals := 64 }
abbrev mr_E_startWithSeries : Room := { frames := 4, cells := 0, slots := 0, locals := 84 }
abbrev mr_P_gather : Room := { frames := 1, cells := 0, slots := 0, locals := 21 }
abbrev mr_E_divide : Room := { frames := 2, cells := 0, slots := 0, locals := 46 }
abbrev mr_E_followWithCofactors : Room := { frames := 2, cells := 0, slots := 0, locals := 46 }
abbrev mr_E_runDownTo : Room := { frames := 3, cells := 0, slots := 0, locals := 69 }
abbrev mr_P_copyFrom : Room := { frames := 1, cells := 0, slots := 0, locals := 64 }
abbrev mr_R_take : Room := { frames := 3, cells := 0, slots := 0, locals := 85 }
abbrev mr_P_valueAt : Room := { frames := 1, cells := 0, slots := 0, locals := 21 }
abbrev mr_P_divideByRoot : Room := { frames := 1, cells := 0, slots := 0, locals := 21 }
abbrev mr_R_cancelRoot : Room := { frames := 2, cells := 0, slots := 0, locals := 46 }
abbrev mr_P_lowest : Room := { frames := 0, cells := 0, slots := 0, locals := 0 }
abbrev mr_P_scaleBy : Room := { frames := 2, cells := 0, slots := 0, locals := 43 }
abbrev mr_R_scale : Room := { frames := 3, cells := 0, slots := 0, locals := 66 }
abbrev mr_W_approximate : Room := { frames := 5, cells := 0, slots := 0, locals := 107 }
abbrev mr_W_numeratorDegree : Room := { frames := 6, cells := 0, slots := 0, locals := 130 }
abbrev mr_W_denominatorDegree : Room := { frames := 6, cells := 0, slots := 0, locals := 130 }
abbrev mr_W_numerator : Room := { frames := 6, cells := 0, slots := 0, locals := 130 }
abbrev mr_W_denominator : Room := { frames := 6, cells := 0, slots := 0, locals := 130 }
abbrev mr_R_agreement : Room := { frames := 1, cells := 0, slots := 0, locals := 21 }
abbrev mr_W_order : Room := { frames := 6, cells := 0, slots := 0, locals := 130 }
abbrev mr_R_block : Room := { frames := 0, cells := 0, slots := 0, locals := 0 }
abbrev mr_W_blockSize : Room := { frames := 6, cells := 0, slots := 0, locals := 130 }
abbrev mr_K_over : Room := { frames := 2, cells := 0, slots := 0, locals := 45 }
abbrev mr_W_evaluate : Room := { frames := 6, cells := 0, slots := 0, locals := 130 }
abbrev mr_W_normalCount : Room := { frames := 6, cells := 0, slots := 0, locals := 130 }
abbrev mr_D_fill : Room := { frames := 1, cells := 0, slots := 0, locals := 20 }
abbrev mr_D_pivotRow : Room := { frames := 0, cells := 0, slots := 0, locals := 0 }
abbrev mr_D_swapRows : Room := { frames := 0, cells := 0, slots := 0, locals := 0 }
abbrev mr_D_clearBelow : Room := { frames := 2, cells := 0, slots := 0, locals := 45 }
abbrev mr_D_valueOf : Room := { frames := 3, cells := 0, slots := 0, locals := 72 }
abbrev mr_W_determinant : Room := { frames := 4, cells := 0, slots := 0, locals := 99 }
abbrev mr_W_isSchemePlace : Room := { frames := 0, cells := 0, slots := 0, locals := 0 }
abbrev mr_Q_ratio : Room := { frames := 3, cells := 0, slots := 0, locals := 67 }
abbrev mr_Q_firstColumns : Room := { frames := 4, cells := 0, slots := 0, locals := 89 }
abbrev mr_Q_nextE : Room := { frames := 1, cells := 0, slots := 0, locals := 21 }
abbrev mr_Q_nextQ : Room := { frames := 4, cells := 0, slots := 0, locals := 89 }
abbrev mr_Q_number : Room := { frames := 5, cells := 0, slots := 0, locals := 112 }
abbrev mr_W_quotientDifference : Room := { frames := 6, cells := 0, slots := 0, locals := 138 }
abbrev mr_W_quotientCount : Room := { frames := 5, cells := 0, slots := 0, locals := 107 }
abbrev mr_W_quotient : Room := { frames := 5, cells := 0, slots := 0, locals := 107 }
abbrev mr_B_gapAt : Room := { frames := 1, cells := 0, slots := 0, locals := 21 }
abbrev mr_B_correct : Room := { frames := 1, cells := 0, slots := 0, locals := 64 }
abbrev mr_B_keepOlder : Room := { frames := 0, cells := 0, slots := 0, locals := 0 }
abbrev mr_B_fit : Room := { frames := 3, cells := 0, slots := 0, locals := 89 }
abbrev mr_W_complexity : Room := { frames := 4, cells := 0, slots := 0, locals := 116 }
abbrev mr_W_recurrence : Room := { frames := 4, cells := 0, slots := 0, locals := 116 }
abbrev mr_Z_hasPointAt : Room := { frames := 0, cells := 0, slots := 0, locals := 0 }
abbrev mr_Z_putPoint : Room := { frames := 0, cells := 0, slots := 0, locals := 0 }
abbrev mr_W_addPoint : Room := { frames := 3, cells := 0, slots := 0, locals := 107 }
abbrev mr_W_clearPoints : Room := { frames := 3, cells := 0, slots := 0, locals := 107 }
abbrev mr_W_isInterpolant : Room := { frames := 0, cells := 0, slots := 0, locals := 0 }
abbrev mr_P_multiplyByRoot : Room := { frames := 1, cells := 0, slots := 0, locals := 21 }
abbrev mr_E_startWithPoints : Room := { frames := 4, cells := 0, slots := 0, locals := 84 }
abbrev mr_W_interpolate : Room := { frames := 5, cells := 0, slots := 0, locals := 109 }
abbrev mr_W_interpolant : Room := { frames := 6, cells := 0, slots := 0, locals := 131 }
abbrev mr_R_passes : Room := { frames := 2, cells := 0, slots := 0, locals := 45 }
abbrev mr_W_missedPoints : Room := { frames := 3, cells := 0, slots := 0, locals := 69 }
abbrev mr_W_unattainable : Room := { frames := 6, cells := 0, slots := 0, locals := 131 }
abbrev mr_H_giveBack : Room := { frames := 2, cells := 0, slots := 0, locals := 86 }
abbrev mr_W_undo : Room := { frames := 3, cells := 0, slots := 0, locals := 107 }
abbrev mr_W_errorCount : Room := { frames := 1, cells := 0, slots := 0, locals := 22 }
abbrev mr_W_mix : Room := { frames := 0, cells := 0, slots := 0, locals := 0 }
abbrev mr_W_mixSeries : Room := { frames := 6, cells := 0, slots := 0, locals := 130 }
abbrev mr_W_mixPoints : Room := { frames := 6, cells := 0, slots := 0, locals := 131 }
abbrev mr_W_digest : Room := { frames := 7, cells := 0, slots := 0, locals := 159 }
abbrev mr_M_init : Room := { frames := 1, cells := 17, slots := 1351, locals := 14 }
abbrev mr_M_in : Room := { frames := 0, cells := 0, slots := 0, locals := 0 }
abbrev mr_M_fail : Room := { frames := 0, cells := 0, slots := 0, locals := 0 }
abbrev mr_M_prime : Room := { frames := 0, cells := 0, slots := 0, locals := 0 }
abbrev mr_M_mod : Room := { frames := 1, cells := 0, slots := 0, locals := 20 }
abbrev mr_M_inverse : Room := { frames := 1, cells := 0, slots := 0, locals := 20 }
abbrev mr_M_isPrime : Room := { frames := 1, cells := 0, slots := 0, locals := 22 }
abbrev mr_M_isSlot : Room := { frames := 1, cells := 0, slots := 0, locals := 22 }
abbrev mr_M_term : Room := { frames := 0, cells := 0, slots := 0, locals := 0 }
abbrev mr_M_save : Room := { frames := 0, cells := 0, slots := 0, locals := 0 }
abbrev mr_M_setPrime : Room := { frames := 2, cells := 0, slots := 0, locals := 44 }
abbrev mr_M_set : Room := { frames := 2, cells := 0, slots := 0, locals := 42 }
abbrev mr_M_coefficient : Room := { frames := 2, cells := 0, slots := 0, locals := 42 }
abbrev mr_M_take : Room := { frames := 1, cells := 0, slots := 0, locals := 22 }
abbrev mr_M_clear : Room := { frames := 0, cells := 0, slots := 0, locals := 0 }
abbrev mr_M_store : Room := { frames := 1, cells := 0, slots := 0, locals := 21 }
abbrev mr_M_makeProduct : Room := { frames := 2, cells := 0, slots := 0, locals := 42 }
abbrev mr_M_makeQuotient : Room := { frames := 2, cells := 0, slots := 0, locals := 43 }
abbrev mr_M_add : Room := { frames := 2, cells := 0, slots := 0, locals := 44 }
abbrev mr_M_multiply : Room := { frames := 3, cells := 0, slots := 0, locals := 65 }
abbrev mr_M_invert : Room := { frames := 3, cells := 0, slots := 0, locals := 67 }
abbrev mr_M_substitute : Room := { frames := 3, cells := 0, slots := 0, locals := 65 }
abbrev mr_M_derivative : Room := { frames := 2, cells := 0, slots := 0, locals := 44 }
abbrev mr_M_append : Room := { frames := 1, cells := 0, slots := 0, locals := 22 }
abbrev mr_M_clearText : Room := { frames := 0, cells := 0, slots := 0, locals := 0 }
abbrev mr_M_here : Room := { frames := 0, cells := 0, slots := 0, locals := 0 }
abbrev mr_M_isDigit : Room := { frames := 1, cells := 0, slots := 0, locals := 22 }
abbrev mr_M_skip : Room := { frames := 1, cells := 0, slots := 0, locals := 20 }
abbrev mr_M_readExponent : Room := { frames := 2, cells := 0, slots := 0, locals := 42 }
abbrev mr_M_readTerm : Room := { frames := 3, cells := 0, slots := 0, locals := 64 }
abbrev mr_M_readPolynomial : Room := { frames := 4, cells := 0, slots := 0, locals := 89 }
abbrev mr_M_readFraction : Room := { frames := 5, cells := 0, slots := 0, locals := 112 }
abbrev mr_M_parse : Room := { frames := 6, cells := 0, slots := 0, locals := 132 }
abbrev mr_M_exchange : Room := { frames := 0, cells := 0, slots := 0, locals := 0 }
abbrev mr_M_lessRow : Room := { frames := 2, cells := 0, slots := 0, locals := 42 }
abbrev mr_M_rowWith : Room := { frames := 0, cells := 0, slots := 0, locals := 0 }
abbrev mr_M_reduce : Room := { frames := 3, cells := 0, slots := 0, locals := 66 }
abbrev mr_M_findVector : Room := { frames := 4, cells := 0, slots := 0, locals := 93 }
abbrev mr_M_degree : Room := { frames := 0, cells := 0, slots := 0, locals := 0 }
abbrev mr_M_copy : Room := { frames := 0, cells := 0, slots := 0, locals := 0 }
abbrev mr_M_divide : Room := { frames := 2, cells := 0, slots := 0, locals := 43 }
abbrev mr_M_toLowest : Room := { frames := 3, cells := 0, slots := 0, locals := 71 }
abbrev mr_M_valueAt : Room := { frames := 2, cells := 0, slots := 0, locals := 42 }
abbrev mr_M_isPair : Room := { frames := 2, cells := 0, slots := 0, locals := 42 }
abbrev mr_M_approximate : Room := { frames := 5, cells := 0, slots := 0, locals := 117 }
abbrev mr_M_orderOf : Room := { frames := 3, cells := 0, slots := 0, locals := 67 }
abbrev mr_M_sizeOf : Room := { frames := 4, cells := 0, slots := 0, locals := 89 }
abbrev mr_M_degreeOrNone : Room := { frames := 1, cells := 0, slots := 0, locals := 22 }
abbrev mr_M_numeratorDegree : Room := { frames := 6, cells := 0, slots := 0, locals := 143 }
abbrev mr_M_denominatorDegree : Room := { frames := 6, cells := 0, slots := 0, locals := 143 }
abbrev mr_M_numerator : Room := { frames := 6, cells := 0, slots := 0, locals := 143 }
abbrev mr_M_denominator : Room := { frames := 6, cells := 0, slots := 0, locals := 143 }
abbrev mr_M_order : Room := { frames := 6, cells := 0, slots := 0, locals := 143 }
abbrev mr_M_blockSize : Room := { frames := 6, cells := 0, slots := 0, locals := 143 }
abbrev mr_M_evaluate : Room := { frames := 6, cells := 0, slots := 0, locals := 143 }
abbrev mr_M_normals : Room := { frames := 6, cells := 0, slots := 0, locals := 143 }
abbrev mr_M_normalCount : Room := { frames := 7, cells := 0, slots := 0, locals := 167 }
abbrev mr_M_determinant : Room := { frames := 3, cells := 0, slots := 0, locals := 66 }
abbrev mr_M_cell : Room := { frames := 0, cells := 0, slots := 0, locals := 0 }
abbrev mr_M_findScheme : Room := { frames := 2, cells := 0, slots := 0, locals := 43 }
abbrev mr_M_quotientDifference : Room := { frames := 3, cells := 0, slots := 0, locals := 69 }
abbrev mr_M_isCut : Room := { frames := 2, cells := 0, slots := 0, locals := 42 }
abbrev mr_M_findQuotients : Room := { frames := 3, cells := 0, slots := 0, locals := 71 }
abbrev mr_M_quotientCount : Room := { frames := 4, cells := 0, slots := 0, locals := 95 }
abbrev mr_M_quotient : Room := { frames := 4, cells := 0, slots := 0, locals := 95 }
abbrev mr_M_isRecurrent : Room := { frames := 4, cells := 0, slots := 0, locals := 93 }
abbrev mr_M_complexityOf : Room := { frames := 5, cells := 0, slots := 0, locals := 118 }
abbrev mr_M_complexity : Room := { frames := 6, cells := 0, slots := 0, locals := 141 }
abbrev mr_M_recurrence : Room := { frames := 6, cells := 0, slots := 0, locals := 141 }
abbrev mr_M_points : Room := { frames := 0, cells := 0, slots := 0, locals := 0 }
abbrev mr_M_addPoint : Room := { frames := 1, cells := 0, slots := 0, locals := 22 }
abbrev mr_M_clearPoints : Room := { frames := 1, cells := 0, slots := 0, locals := 21 }
abbrev mr_M_interpolate : Room := { frames := 5, cells := 0, slots := 0, locals := 117 }
abbrev mr_M_missed : Room := { frames := 6, cells := 0, slots := 0, locals := 142 }
abbrev mr_M_interpolant : Room := { frames := 6, cells := 0, slots := 0, locals := 142 }
abbrev mr_M_unattainable : Room := { frames := 7, cells := 0, slots := 0, locals := 166 }
abbrev mr_M_undo : Room := { frames := 1, cells := 0, slots := 0, locals := 21 }
abbrev mr_M_errorCount : Room := { frames := 1, cells := 0, slots := 0, locals := 22 }
abbrev mr_M_digest : Room := { frames := 7, cells := 0, slots := 0, locals := 167 }
theorem mq_0 : Cond.selects "PadeWorkbench" my_W_fail my_W_fail ∈ pw_gt := pw_gt_at 0 (by decide +kernel) rfl
theorem mq_1 : Cond.selects "PadeWorkbench" my_W_isElement my_W_isElement ∈ pw_gt := pw_gt_at 1 (by decide +kernel) rfl
theorem mq_2 : Cond.selects "PadeWorkbench" my_W_store my_W_store ∈ pw_gt := pw_gt_at 2 (by decide +kernel) rfl
theorem mq_3 : Cond.selects "PadeWorkbench" my_W_composeIntoResult my_W_composeIntoResult ∈ pw_gt := pw_gt_at 3 (by decide +kernel) rfl
theorem mq_4 : Cond.selects "PadeWorkbench$FractionText" my_T_readPolynomial my_T_readPolynomial ∈ pw_gt := pw_gt_at 4 (by decide +kernel) rfl
theorem mq_5 : Cond.selects "PadeWorkbench$FractionText" my_T_took my_T_took ∈ pw_gt := pw_gt_at 5 (by decide +kernel) rfl
theorem mq_6 : Cond.selects "PadeWorkbench$FractionText" my_T_peek my_T_peek ∈ pw_gt := pw_gt_at 6 (by decide +kernel) rfl
theorem mq_7 : Cond.selects "PadeWorkbench$FractionText" my_T_here my_T_here ∈ pw_gt := pw_gt_at 7 (by decide +kernel) rfl
theorem mq_8 : Cond.selects "PadeWorkbench$FractionText" my_T_readTerm my_T_readTerm ∈ pw_gt := pw_gt_at 8 (by decide +kernel) rfl
theorem mq_9 : Cond.selects "PadeWorkbench$FractionText" my_T_readNumber my_T_readNumber ∈ pw_gt := pw_gt_at 9 (by decide +kernel) rfl
theorem mq_10 : Cond.selects "PadeWorkbench$FractionText" my_T_readExponent my_T_readExponent ∈ pw_gt := pw_gt_at 10 (by decide +kernel) rfl
theorem mq_11 : Cond.selects "PadeWorkbench" my_W_approximate my_W_approximate ∈ pw_gt := pw_gt_at 11 (by decide +kernel) rfl
theorem mq_12 : Cond.selects "PadeWorkbench$Euclid" my_E_startCofactors my_E_startCofactors ∈ pw_gt := pw_gt_at 12 (by decide +kernel) rfl
theorem mq_13 : Cond.selects "PadeWorkbench$Euclid" my_E_followWithCofactors my_E_followWithCofactors ∈ pw_gt := pw_gt_at 13 (by decide +kernel) rfl
theorem mq_14 : Cond.selects "PadeWorkbench$Toeplitz" my_D_fill my_D_fill ∈ pw_gt := pw_gt_at 14 (by decide +kernel) rfl
theorem mq_15 : Cond.selects "PadeWorkbench$Toeplitz" my_D_pivotRow my_D_pivotRow ∈ pw_gt := pw_gt_at 15 (by decide +kernel) rfl
theorem mq_16 : Cond.selects "PadeWorkbench$Toeplitz" my_D_swapRows my_D_swapRows ∈ pw_gt := pw_gt_at 16 (by decide +kernel) rfl
theorem mq_17 : Cond.selects "PadeWorkbench$Toeplitz" my_D_clearBelow my_D_clearBelow ∈ pw_gt := pw_gt_at 17 (by decide +kernel) rfl
theorem mq_18 : Cond.selects "PadeWorkbench$Scheme" my_Q_firstColumns my_Q_firstColumns ∈ pw_gt := pw_gt_at 18 (by decide +kernel) rfl
theorem mq_19 : Cond.selects "PadeWorkbench$Scheme" my_Q_nextE my_Q_nextE ∈ pw_gt := pw_gt_at 19 (by decide +kernel) rfl
theorem mq_20 : Cond.selects "PadeWorkbench$Scheme" my_Q_nextQ my_Q_nextQ ∈ pw_gt := pw_gt_at 20 (by decide +kernel) rfl
theorem mq_21 : Cond.selects "PadeWorkbench$Register" my_B_gapAt my_B_gapAt ∈ pw_gt := pw_gt_at 21 (by decide +kernel) rfl
theorem mq_22 : Cond.selects "PadeWorkbench$Register" my_B_correct my_B_correct ∈ pw_gt := pw_gt_at 22 (by decide +kernel) rfl
theorem mq_23 : Cond.selects "PadeWorkbench$Register" my_B_keepOlder my_B_keepOlder ∈ pw_gt := pw_gt_at 23 (by decide +kernel) rfl
theorem mq_24 : Cond.selects "PadeWorkbench" my_W_isInterpolant my_W_isInterpolant ∈ pw_gt := pw_gt_at 24 (by decide +kernel) rfl
theorem mq_25 : Cond.selects "PadeWorkbench" my_W_interpolate my_W_interpolate ∈ pw_gt := pw_gt_at 25 (by decide +kernel) rfl
theorem mq_26 : Cond.selects "PadeWorkbench" my_W_missedPoints my_W_missedPoints ∈ pw_gt := pw_gt_at 26 (by decide +kernel) rfl
theorem mq_27 : Cond.selects "PadeWorkbench" my_W_mixSeries my_W_mixSeries ∈ pw_gt := pw_gt_at 27 (by decide +kernel) rfl
theorem mq_28 : Cond.selects "PadeWorkbench" my_W_mixPoints my_W_mixPoints ∈ pw_gt := pw_gt_at 28 (by decide +kernel) rfl
theorem mq_29 : Cond.selects "PadeWorkbenchModel" my_M_fail my_M_fail ∈ pw_gt := pw_gt_at 29 (by decide +kernel) rfl
theorem mq_30 : Cond.selects "PadeWorkbenchModel" my_M_save my_M_save ∈ pw_gt := pw_gt_at 30 (by decide +kernel) rfl
theorem mq_31 : Cond.selects "PadeWorkbenchModel" my_M_prime my_M_prime ∈ pw_gt := pw_gt_at 31 (by decide +kernel) rfl
theorem mq_32 : Cond.selects "PadeWorkbenchModel" my_M_term my_M_term ∈ pw_gt := pw_gt_at 32 (by decide +kernel) rfl
theorem mq_33 : Cond.selects "PadeWorkbenchModel" my_M_mod my_M_mod ∈ pw_gt := pw_gt_at 33 (by decide +kernel) rfl
theorem mq_34 : Cond.selects "PadeWorkbenchModel" my_M_store my_M_store ∈ pw_gt := pw_gt_at 34 (by decide +kernel) rfl
theorem mq_35 : Cond.selects "PadeWorkbenchModel" my_M_take my_M_take ∈ pw_gt := pw_gt_at 35 (by decide +kernel) rfl
theorem mq_36 : Cond.selects "PadeWorkbenchModel" my_M_makeProduct my_M_makeProduct ∈ pw_gt := pw_gt_at 36 (by decide +kernel) rfl
theorem mq_37 : Cond.selects "PadeWorkbenchModel" my_M_makeQuotient my_M_makeQuotient ∈ pw_gt := pw_gt_at 37 (by decide +kernel) rfl
theorem mq_38 : Cond.selects "PadeWorkbenchModel" my_M_inverse my_M_inverse ∈ pw_gt := pw_gt_at 38 (by decide +kernel) rfl
theorem mq_39 : Cond.selects "PadeWorkbenchModel" my_M_readFraction my_M_readFraction ∈ pw_gt := pw_gt_at 39 (by decide +kernel) rfl
theorem mq_40 : Cond.selects "PadeWorkbenchModel" my_M_readPolynomial my_M_readPolynomial ∈ pw_gt := pw_gt_at 40 (by decide +kernel) rfl
theorem mq_41 : Cond.selects "PadeWorkbenchModel" my_M_skip my_M_skip ∈ pw_gt := pw_gt_at 41 (by decide +kernel) rfl
theorem mq_42 : Cond.selects "PadeWorkbenchModel" my_M_here my_M_here ∈ pw_gt := pw_gt_at 42 (by decide +kernel) rfl
theorem mq_43 : Cond.selects "PadeWorkbenchModel" my_M_readTerm my_M_readTerm ∈ pw_gt := pw_gt_at 43 (by decide +kernel) rfl
theorem mq_44 : Cond.selects "PadeWorkbenchModel" my_M_isDigit my_M_isDigit ∈ pw_gt := pw_gt_at 44 (by decide +kernel) rfl
theorem mq_45 : Cond.selects "PadeWorkbenchModel" my_M_readExponent my_M_readExponent ∈ pw_gt := pw_gt_at 45 (by decide +kernel) rfl
theorem mq_46 : Cond.selects "PadeWorkbenchModel" my_M_isPair my_M_isPair ∈ pw_gt := pw_gt_at 46 (by decide +kernel) rfl
theorem mq_47 : Cond.selects "PadeWorkbenchModel" my_M_approximate my_M_approximate ∈ pw_gt := pw_gt_at 47 (by decide +kernel) rfl
theorem mq_48 : Cond.selects "PadeWorkbenchModel" my_M_findVector my_M_findVector ∈ pw_gt := pw_gt_at 48 (by decide +kernel) rfl
theorem mq_49 : Cond.selects "PadeWorkbenchModel" my_M_reduce my_M_reduce ∈ pw_gt := pw_gt_at 49 (by decide +kernel) rfl
theorem mq_50 : Cond.selects "PadeWorkbenchModel" my_M_rowWith my_M_rowWith ∈ pw_gt := pw_gt_at 50 (by decide +kernel) rfl
theorem mq_51 : Cond.selects "PadeWorkbenchModel" my_M_exchange my_M_exchange ∈ pw_gt := pw_gt_at 51 (by decide +kernel) rfl
theorem mq_52 : Cond.selects "PadeWorkbenchModel" my_M_lessRow my_M_lessRow ∈ pw_gt := pw_gt_at 52 (by decide +kernel) rfl
theorem mq_53 : Cond.selects "PadeWorkbenchModel" my_M_toLowest my_M_toLowest ∈ pw_gt := pw_gt_at 53 (by decide +kernel) rfl
theorem mq_54 : Cond.selects "PadeWorkbenchModel" my_M_divide my_M_divide ∈ pw_gt := pw_gt_at 54 (by decide +kernel) rfl
theorem mq_55 : Cond.selects "PadeWorkbenchModel" my_M_degreeOrNone my_M_degreeOrNone ∈ pw_gt := pw_gt_at 55 (by decide +kernel) rfl
theorem mq_56 : Cond.selects "PadeWorkbenchModel" my_M_orderOf my_M_orderOf ∈ pw_gt := pw_gt_at 56 (by decide +kernel) rfl
theorem mq_57 : Cond.selects "PadeWorkbenchModel" my_M_sizeOf my_M_sizeOf ∈ pw_gt := pw_gt_at 57 (by decide +kernel) rfl
theorem mq_58 : Cond.selects "PadeWorkbenchModel" my_M_valueAt my_M_valueAt ∈ pw_gt := pw_gt_at 58 (by decide +kernel) rfl
theorem mq_59 : Cond.selects "PadeWorkbenchModel" my_M_normals my_M_normals ∈ pw_gt := pw_gt_at 59 (by decide +kernel) rfl
theorem mq_60 : Cond.selects "PadeWorkbenchModel" my_M_findScheme my_M_findScheme ∈ pw_gt := pw_gt_at 60 (by decide +kernel) rfl
theorem mq_61 : Cond.selects "PadeWorkbenchModel" my_M_isCut my_M_isCut ∈ pw_gt := pw_gt_at 61 (by decide +kernel) rfl
theorem mq_62 : Cond.selects "PadeWorkbenchModel" my_M_findQuotients my_M_findQuotients ∈ pw_gt := pw_gt_at 62 (by decide +kernel) rfl
theorem mq_63 : Cond.selects "PadeWorkbenchModel" my_M_complexityOf my_M_complexityOf ∈ pw_gt := pw_gt_at 63 (by decide +kernel) rfl
theorem mq_64 : Cond.selects "PadeWorkbenchModel" my_M_isRecurrent my_M_isRecurrent ∈ pw_gt := pw_gt_at 64 (by decide +kernel) rfl
theorem mq_65 : Cond.selects "PadeWorkbenchModel" my_M_points my_M_points ∈ pw_gt := pw_gt_at 65 (by decide +kernel) rfl
theorem mq_66 : Cond.selects "PadeWorkbenchModel" my_M_interpolate my_M_interpolate ∈ pw_gt := pw_gt_at 66 (by decide +kernel) rfl
theorem mq_67 : Cond.selects "PadeWorkbenchModel" my_M_missed my_M_missed ∈ pw_gt := pw_gt_at 67 (by decide +kernel) rfl
theorem mq_69 : Cond.initialized "PadeWorkbench" ∈ pw_gt := pw_gt_at 69 (by decide +kernel) rfl
theorem mq_70 : Cond.initialized "PadeWorkbench$State" ∈ pw_gt := pw_gt_at 70 (by decide +kernel) rfl
theorem mq_71 : Cond.initialized "PadeWorkbench$History" ∈ pw_gt := pw_gt_at 71 (by decide +kernel) rfl
theorem mq_72 : Cond.initialized "PadeWorkbench$FractionText" ∈ pw_gt := pw_gt_at 72 (by decide +kernel) rfl
theorem mq_73 : Cond.initialized "PadeWorkbench$Euclid" ∈ pw_gt := pw_gt_at 73 (by decide +kernel) rfl
theorem mq_74 : Cond.initialized "PadeWorkbench$Polynomial" ∈ pw_gt := pw_gt_at 74 (by decide +kernel) rfl
theorem mq_75 : Cond.initialized "PadeWorkbench$Fraction" ∈ pw_gt := pw_gt_at 75 (by decide +kernel) rfl
theorem mq_76 : Cond.initialized "PadeWorkbench$Toeplitz" ∈ pw_gt := pw_gt_at 76 (by decide +kernel) rfl
theorem mq_77 : Cond.initialized "PadeWorkbench$Scheme" ∈ pw_gt := pw_gt_at 77 (by decide +kernel) rfl
theorem mq_78 : Cond.initialized "PadeWorkbench$Register" ∈ pw_gt := pw_gt_at 78 (by decide +kernel) rfl
theorem mq_79 : Cond.initialized "PadeWorkbenchModel" ∈ pw_gt := pw_gt_at 79 (by decide +kernel) rfl
theorem mq_80 : Cond.initialized "java/lang/System" ∈ pw_gt := pw_gt_at 80 (by decide +kernel) rfl
theorem mq_81 : Cond.initialized "java/util/Arrays" ∈ pw_gt := pw_gt_at 81 (by decide +kernel) rfl
theorem mq_82 : Cond.initialized "PadeWorkbench$Series" ∈ pw_gt := pw_gt_at 82 (by decide +kernel) rfl
theorem mq_83 : Cond.initialized "PadeWorkbench$Field" ∈ pw_gt := pw_gt_at 83 (by decide +kernel) rfl
theorem mq_88 : Cond.code my_W_init prog_1_method_1_code 1 none ∈ pw_gt := pw_gt_at 88 (by decide +kernel) rfl
theorem mq_89 : Cond.methodLink "PadeWorkbench" 1 objectInit ∈ pw_gt := pw_gt_at 89 (by decide +kernel) rfl
theorem mq_90 : Cond.instanceMethod objectInit ∈ pw_gt := pw_gt_at 90 (by decide +kernel) rfl
theorem mq_91 : Cond.code objectInit ⟨#[0xb1]⟩ 1 none ∈ pw_gt := pw_gt_at 91 (by decide +kernel) rfl
theorem mq_92 : Cond.classLink "PadeWorkbench" 7 "PadeWorkbench$State" ∈ pw_gt := pw_gt_at 92 (by decide +kernel) rfl
theorem mq_93 : Cond.instantiable "PadeWorkbench$State" 5 ∈ pw_gt := pw_gt_at 93 (by decide +kernel) rfl
theorem mq_95 : Cond.instanceMethod my_Z_init ∈ pw_gt := pw_gt_at 95 (by decide +kernel) rfl
theorem mq_96 : Cond.code my_Z_init prog_11_method_1_code 1 none ∈ pw_gt := pw_gt_at 96 (by decide +kernel) rfl
theorem mq_97 : Cond.methodLink "PadeWorkbench$State" 3 objectInit ∈ pw_gt := pw_gt_at 97 (by decide +kernel) rfl
theorem mq_98 : Cond.classLink "PadeWorkbench$State" 15 "[[I" ∈ pw_gt := pw_gt_at 98 (by decide +kernel) rfl
theorem mq_100 : Cond.fieldLink "PadeWorkbench$State" 9 "PadeWorkbench$State" "prime" "I" ∈ pw_gt := pw_gt_at 100 (by decide +kernel) rfl
theorem mq_103 : Cond.fieldLink "PadeWorkbench$State" 17 "PadeWorkbench$State" "series" "[[I" ∈ pw_gt := pw_gt_at 103 (by decide +kernel) rfl
theorem mq_105 : Cond.fieldLink "PadeWorkbench$State" 33 "PadeWorkbench$State" "points" "I" ∈ pw_gt := pw_gt_at 105 (by decide +kernel) rfl
theorem mq_108 : Cond.fieldLink "PadeWorkbench$State" 20 "PadeWorkbench$State" "xs" "[I" ∈ pw_gt := pw_gt_at 108 (by decide +kernel) rfl
theorem mq_111 : Cond.fieldLink "PadeWorkbench$State" 24 "PadeWorkbench$State" "ys" "[I" ∈ pw_gt := pw_gt_at 111 (by decide +kernel) rfl
theorem mq_114 : Cond.lays "PadeWorkbench$State" "PadeWorkbench$State" "prime" "I" ∈ pw_gt := pw_gt_at 114 (by decide +kernel) rfl
theorem mq_116 : Cond.laysFinal "PadeWorkbench$State" "PadeWorkbench$State" "series" "[[I" ∈ pw_gt := pw_gt_at 116 (by decide +kernel) rfl
theorem mq_118 : Cond.lays "PadeWorkbench$State" "PadeWorkbench$State" "points" "I" ∈ pw_gt := pw_gt_at 118 (by decide +kernel) rfl
theorem mq_120 : Cond.laysFinal "PadeWorkbench$State" "PadeWorkbench$State" "xs" "[I" ∈ pw_gt := pw_gt_at 120 (by decide +kernel) rfl
theorem mq_122 : Cond.laysFinal "PadeWorkbench$State" "PadeWorkbench$State" "ys" "[I" ∈ pw_gt := pw_gt_at 122 (by decide +kernel) rfl
theorem mq_125 : Cond.arrayClass .int ∈ pw_gt := pw_gt_at 125 (by decide +kernel) rfl
theorem mq_126 : Cond.classLink "PadeWorkbench" 16 "PadeWorkbench$History" ∈ pw_gt := pw_gt_at 126 (by decide +kernel) rfl
theorem mq_127 : Cond.instantiable "PadeWorkbench$History" 3 ∈ pw_gt := pw_gt_at 127 (by decide +kernel) rfl
theorem mq_128 : Cond.methodLink "PadeWorkbench" 18 my_H_init ∈ pw_gt := pw_gt_at 128 (by decide +kernel) rfl
theorem mq_129 : Cond.instanceMethod my_H_init ∈ pw_gt := pw_gt_at 129 (by decide +kernel) rfl
theorem mq_130 : Cond.code my_H_init prog_6_method_1_code 2 none ∈ pw_gt := pw_gt_at 130 (by decide +kernel) rfl
theorem mq_131 : Cond.methodLink "PadeWorkbench$History" 3 objectInit ∈ pw_gt := pw_gt_at 131 (by decide +kernel) rfl
theorem mq_132 : Cond.classLink "PadeWorkbench$History" 9 "PadeWorkbench$State" ∈ pw_gt := pw_gt_at 132 (by decide +kernel) rfl
theorem mq_135 : Cond.fieldLink "PadeWorkbench$History" 11 "PadeWorkbench$History" "states" "[LPadeWorkbench$State;" ∈ pw_gt := pw_gt_at 135 (by decide +kernel) rfl
theorem mq_136 : Cond.fieldLink "PadeWorkbench$History" 18 "PadeWorkbench$History" "next" "I" ∈ pw_gt := pw_gt_at 136 (by decide +kernel) rfl
theorem mq_137 : Cond.fieldLink "PadeWorkbench$History" 26 "PadeWorkbench$History" "count" "I" ∈ pw_gt := pw_gt_at 137 (by decide +kernel) rfl
theorem mq_139 : Cond.laysFinal "PadeWorkbench$History" "PadeWorkbench$History" "states" "[LPadeWorkbench$State;" ∈ pw_gt := pw_gt_at 139 (by decide +kernel) rfl
theorem mq_141 : Cond.lays "PadeWorkbench$History" "PadeWorkbench$History" "next" "I" ∈ pw_gt := pw_gt_at 141 (by decide +kernel) rfl
theorem mq_143 : Cond.lays "PadeWorkbench$History" "PadeWorkbench$History" "count" "I" ∈ pw_gt := pw_gt_at 143 (by decide +kernel) rfl
theorem mq_146 : Cond.classLink "PadeWorkbench" 23 "PadeWorkbench$FractionText" ∈ pw_gt := pw_gt_at 146 (by decide +kernel) rfl
theorem mq_147 : Cond.instantiable "PadeWorkbench$FractionText" 6 ∈ pw_gt := pw_gt_at 147 (by decide +kernel) rfl
theorem mq_149 : Cond.instanceMethod my_T_init ∈ pw_gt := pw_gt_at 149 (by decide +kernel) rfl
theorem mq_150 : Cond.code my_T_init prog_5_method_1_code 1 none ∈ pw_gt := pw_gt_at 150 (by decide +kernel) rfl
theorem mq_151 : Cond.methodLink "PadeWorkbench$FractionText" 3 objectInit ∈ pw_gt := pw_gt_at 151 (by decide +kernel) rfl
theorem mq_152 : Cond.fieldLink "PadeWorkbench$FractionText" 9 "PadeWorkbench$FractionText" "bytes" "[I" ∈ pw_gt := pw_gt_at 152 (by decide +kernel) rfl
theorem mq_153 : Cond.fieldLink "PadeWorkbench$FractionText" 21 "PadeWorkbench$FractionText" "length" "I" ∈ pw_gt := pw_gt_at 153 (by decide +kernel) rfl
theorem mq_155 : Cond.fieldLink "PadeWorkbench$FractionText" 28 "PadeWorkbench$FractionText" "position" "I" ∈ pw_gt := pw_gt_at 155 (by decide +kernel) rfl
theorem mq_157 : Cond.fieldLink "PadeWorkbench$FractionText" 25 "PadeWorkbench$FractionText" "p" "I" ∈ pw_gt := pw_gt_at 157 (by decide +kernel) rfl
theorem mq_158 : Cond.fieldLink "PadeWorkbench$FractionText" 15 "PadeWorkbench$FractionText" "top" "[I" ∈ pw_gt := pw_gt_at 158 (by decide +kernel) rfl
theorem mq_160 : Cond.fieldLink "PadeWorkbench$FractionText" 18 "PadeWorkbench$FractionText" "bottom" "[I" ∈ pw_gt := pw_gt_at 160 (by decide +kernel) rfl
theorem mq_162 : Cond.laysFinal "PadeWorkbench$FractionText" "PadeWorkbench$FractionText" "bytes" "[I" ∈ pw_gt := pw_gt_at 162 (by decide +kernel) rfl
theorem mq_164 : Cond.lays "PadeWorkbench$FractionText" "PadeWorkbench$FractionText" "length" "I" ∈ pw_gt := pw_gt_at 164 (by decide +kernel) rfl
theorem mq_166 : Cond.lays "PadeWorkbench$FractionText" "PadeWorkbench$FractionText" "position" "I" ∈ pw_gt := pw_gt_at 166 (by decide +kernel) rfl
theorem mq_168 : Cond.lays "PadeWorkbench$FractionText" "PadeWorkbench$FractionText" "p" "I" ∈ pw_gt := pw_gt_at 168 (by decide +kernel) rfl
theorem mq_170 : Cond.laysFinal "PadeWorkbench$FractionText" "PadeWorkbench$FractionText" "top" "[I" ∈ pw_gt := pw_gt_at 170 (by decide +kernel) rfl
theorem mq_172 : Cond.laysFinal "PadeWorkbench$FractionText" "PadeWorkbench$FractionText" "bottom" "[I" ∈ pw_gt := pw_gt_at 172 (by decide +kernel) rfl
theorem mq_175 : Cond.classLink "PadeWorkbench" 30 "PadeWorkbench$Euclid" ∈ pw_gt := pw_gt_at 175 (by decide +kernel) rfl
theorem mq_176 : Cond.instantiable "PadeWorkbench$Euclid" 6 ∈ pw_gt := pw_gt_at 176 (by decide +kernel) rfl
theorem mq_178 : Cond.instanceMethod my_E_init ∈ pw_gt := pw_gt_at 178 (by decide +kernel) rfl
theorem mq_179 : Cond.code my_E_init prog_2_method_1_code 1 none ∈ pw_gt := pw_gt_at 179 (by decide +kernel) rfl
theorem mq_180 : Cond.methodLink "PadeWorkbench$Euclid" 3 objectInit ∈ pw_gt := pw_gt_at 180 (by decide +kernel) rfl
theorem mq_181 : Cond.classLink "PadeWorkbench$Euclid" 9 "PadeWorkbench$Polynomial" ∈ pw_gt := pw_gt_at 181 (by decide +kernel) rfl
theorem mq_182 : Cond.instantiable "PadeWorkbench$Polynomial" 2 ∈ pw_gt := pw_gt_at 182 (by decide +kernel) rfl
theorem mq_184 : Cond.instanceMethod my_P_init ∈ pw_gt := pw_gt_at 184 (by decide +kernel) rfl
theorem mq_185 : Cond.code my_P_init prog_7_method_1_code 1 none ∈ pw_gt := pw_gt_at 185 (by decide +kernel) rfl
theorem mq_186 : Cond.methodLink "PadeWorkbench$Polynomial" 3 objectInit ∈ pw_gt := pw_gt_at 186 (by decide +kernel) rfl
theorem mq_187 : Cond.fieldLink "PadeWorkbench$Polynomial" 9 "PadeWorkbench$Polynomial" "row" "[I" ∈ pw_gt := pw_gt_at 187 (by decide +kernel) rfl
theorem mq_191 : Cond.fieldLink "PadeWorkbench$Polynomial" 15 "PadeWorkbench$Polynomial" "degree" "I" ∈ pw_gt := pw_gt_at 191 (by decide +kernel) rfl
theorem mq_195 : Cond.laysFinal "PadeWorkbench$Polynomial" "PadeWorkbench$Polynomial" "row" "[I" ∈ pw_gt := pw_gt_at 195 (by decide +kernel) rfl
theorem mq_197 : Cond.lays "PadeWorkbench$Polynomial" "PadeWorkbench$Polynomial" "degree" "I" ∈ pw_gt := pw_gt_at 197 (by decide +kernel) rfl
theorem mq_200 : Cond.fieldLink "PadeWorkbench$Euclid" 12 "PadeWorkbench$Euclid" "before" "LPadeWorkbench$Polynomial;" ∈ pw_gt := pw_gt_at 200 (by decide +kernel) rfl
theorem mq_201 : Cond.fieldLink "PadeWorkbench$Euclid" 18 "PadeWorkbench$Euclid" "latest" "LPadeWorkbench$Polynomial;" ∈ pw_gt := pw_gt_at 201 (by decide +kernel) rfl
theorem mq_203 : Cond.fieldLink "PadeWorkbench$Euclid" 21 "PadeWorkbench$Euclid" "cofactorBefore" "LPadeWorkbench$Polynomial;" ∈ pw_gt := pw_gt_at 203 (by decide +kernel) rfl
theorem mq_204 : Cond.fieldLink "PadeWorkbench$Euclid" 24 "PadeWorkbench$Euclid" "cofactor" "LPadeWorkbench$Polynomial;" ∈ pw_gt := pw_gt_at 204 (by decide +kernel) rfl
theorem mq_206 : Cond.fieldLink "PadeWorkbench$Euclid" 27 "PadeWorkbench$Euclid" "quotient" "LPadeWorkbench$Polynomial;" ∈ pw_gt := pw_gt_at 206 (by decide +kernel) rfl
theorem mq_208 : Cond.fieldLink "PadeWorkbench$Euclid" 30 "PadeWorkbench$Euclid" "p" "I" ∈ pw_gt := pw_gt_at 208 (by decide +kernel) rfl
theorem mq_209 : Cond.lays "PadeWorkbench$Euclid" "PadeWorkbench$Euclid" "before" "LPadeWorkbench$Polynomial;" ∈ pw_gt := pw_gt_at 209 (by decide +kernel) rfl
theorem mq_211 : Cond.lays "PadeWorkbench$Euclid" "PadeWorkbench$Euclid" "latest" "LPadeWorkbench$Polynomial;" ∈ pw_gt := pw_gt_at 211 (by decide +kernel) rfl
theorem mq_213 : Cond.lays "PadeWorkbench$Euclid" "PadeWorkbench$Euclid" "cofactorBefore" "LPadeWorkbench$Polynomial;" ∈ pw_gt := pw_gt_at 213 (by decide +kernel) rfl
theorem mq_215 : Cond.lays "PadeWorkbench$Euclid" "PadeWorkbench$Euclid" "cofactor" "LPadeWorkbench$Polynomial;" ∈ pw_gt := pw_gt_at 215 (by decide +kernel) rfl
theorem mq_217 : Cond.laysFinal "PadeWorkbench$Euclid" "PadeWorkbench$Euclid" "quotient" "LPadeWorkbench$Polynomial;" ∈ pw_gt := pw_gt_at 217 (by decide +kernel) rfl
theorem mq_219 : Cond.lays "PadeWorkbench$Euclid" "PadeWorkbench$Euclid" "p" "I" ∈ pw_gt := pw_gt_at 219 (by decide +kernel) rfl
theorem mq_222 : Cond.classLink "PadeWorkbench" 37 "PadeWorkbench$Fraction" ∈ pw_gt := pw_gt_at 222 (by decide +kernel) rfl
theorem mq_223 : Cond.instantiable "PadeWorkbench$Fraction" 2 ∈ pw_gt := pw_gt_at 223 (by decide +kernel) rfl
theorem mq_225 : Cond.instanceMethod my_R_init ∈ pw_gt := pw_gt_at 225 (by decide +kernel) rfl
theorem mq_226 : Cond.code my_R_init prog_4_method_1_code 1 none ∈ pw_gt := pw_gt_at 226 (by decide +kernel) rfl
theorem mq_227 : Cond.methodLink "PadeWorkbench$Fraction" 3 objectInit ∈ pw_gt := pw_gt_at 227 (by decide +kernel) rfl
theorem mq_228 : Cond.classLink "PadeWorkbench$Fraction" 9 "PadeWorkbench$Polynomial" ∈ pw_gt := pw_gt_at 228 (by decide +kernel) rfl
theorem mq_230 : Cond.fieldLink "PadeWorkbench$Fraction" 12 "PadeWorkbench$Fraction" "top" "LPadeWorkbench$Polynomial;" ∈ pw_gt := pw_gt_at 230 (by decide +kernel) rfl
theorem mq_232 : Cond.fieldLink "PadeWorkbench$Fraction" 18 "PadeWorkbench$Fraction" "bottom" "LPadeWorkbench$Polynomial;" ∈ pw_gt := pw_gt_at 232 (by decide +kernel) rfl
theorem mq_234 : Cond.laysFinal "PadeWorkbench$Fraction" "PadeWorkbench$Fraction" "top" "LPadeWorkbench$Polynomial;" ∈ pw_gt := pw_gt_at 234 (by decide +kernel) rfl
theorem mq_236 : Cond.laysFinal "PadeWorkbench$Fraction" "PadeWorkbench$Fraction" "bottom" "LPadeWorkbench$Polynomial;" ∈ pw_gt := pw_gt_at 236 (by decide +kernel) rfl
theorem mq_239 : Cond.classLink "PadeWorkbench" 44 "PadeWorkbench$Toeplitz" ∈ pw_gt := pw_gt_at 239 (by decide +kernel) rfl
theorem mq_240 : Cond.instantiable "PadeWorkbench$Toeplitz" 1 ∈ pw_gt := pw_gt_at 240 (by decide +kernel) rfl
theorem mq_242 : Cond.instanceMethod my_D_init ∈ pw_gt := pw_gt_at 242 (by decide +kernel) rfl
theorem mq_243 : Cond.code my_D_init prog_12_method_1_code 1 none ∈ pw_gt := pw_gt_at 243 (by decide +kernel) rfl
theorem mq_244 : Cond.methodLink "PadeWorkbench$Toeplitz" 3 objectInit ∈ pw_gt := pw_gt_at 244 (by decide +kernel) rfl
theorem mq_245 : Cond.classLink "PadeWorkbench$Toeplitz" 9 "[[I" ∈ pw_gt := pw_gt_at 245 (by decide +kernel) rfl
theorem mq_246 : Cond.fieldLink "PadeWorkbench$Toeplitz" 11 "PadeWorkbench$Toeplitz" "cells" "[[I" ∈ pw_gt := pw_gt_at 246 (by decide +kernel) rfl
theorem mq_247 : Cond.laysFinal "PadeWorkbench$Toeplitz" "PadeWorkbench$Toeplitz" "cells" "[[I" ∈ pw_gt := pw_gt_at 247 (by decide +kernel) rfl
theorem mq_250 : Cond.classLink "PadeWorkbench" 51 "PadeWorkbench$Scheme" ∈ pw_gt := pw_gt_at 250 (by decide +kernel) rfl
theorem mq_251 : Cond.instantiable "PadeWorkbench$Scheme" 2 ∈ pw_gt := pw_gt_at 251 (by decide +kernel) rfl
theorem mq_253 : Cond.instanceMethod my_Q_init ∈ pw_gt := pw_gt_at 253 (by decide +kernel) rfl
theorem mq_254 : Cond.code my_Q_init prog_9_method_1_code 1 none ∈ pw_gt := pw_gt_at 254 (by decide +kernel) rfl
theorem mq_255 : Cond.methodLink "PadeWorkbench$Scheme" 3 objectInit ∈ pw_gt := pw_gt_at 255 (by decide +kernel) rfl
theorem mq_256 : Cond.fieldLink "PadeWorkbench$Scheme" 9 "PadeWorkbench$Scheme" "q" "[I" ∈ pw_gt := pw_gt_at 256 (by decide +kernel) rfl
theorem mq_257 : Cond.fieldLink "PadeWorkbench$Scheme" 15 "PadeWorkbench$Scheme" "e" "[I" ∈ pw_gt := pw_gt_at 257 (by decide +kernel) rfl
theorem mq_258 : Cond.laysFinal "PadeWorkbench$Scheme" "PadeWorkbench$Scheme" "q" "[I" ∈ pw_gt := pw_gt_at 258 (by decide +kernel) rfl
theorem mq_260 : Cond.laysFinal "PadeWorkbench$Scheme" "PadeWorkbench$Scheme" "e" "[I" ∈ pw_gt := pw_gt_at 260 (by decide +kernel) rfl
theorem mq_263 : Cond.classLink "PadeWorkbench" 58 "PadeWorkbench$Register" ∈ pw_gt := pw_gt_at 263 (by decide +kernel) rfl
theorem mq_264 : Cond.instantiable "PadeWorkbench$Register" 4 ∈ pw_gt := pw_gt_at 264 (by decide +kernel) rfl
theorem mq_266 : Cond.instanceMethod my_B_init ∈ pw_gt := pw_gt_at 266 (by decide +kernel) rfl
theorem mq_267 : Cond.code my_B_init prog_8_method_1_code 1 none ∈ pw_gt := pw_gt_at 267 (by decide +kernel) rfl
theorem mq_268 : Cond.methodLink "PadeWorkbench$Register" 3 objectInit ∈ pw_gt := pw_gt_at 268 (by decide +kernel) rfl
theorem mq_269 : Cond.fieldLink "PadeWorkbench$Register" 9 "PadeWorkbench$Register" "connection" "[I" ∈ pw_gt := pw_gt_at 269 (by decide +kernel) rfl
theorem mq_271 : Cond.fieldLink "PadeWorkbench$Register" 15 "PadeWorkbench$Register" "older" "[I" ∈ pw_gt := pw_gt_at 271 (by decide +kernel) rfl
theorem mq_272 : Cond.fieldLink "PadeWorkbench$Register" 18 "PadeWorkbench$Register" "spareRow" "[I" ∈ pw_gt := pw_gt_at 272 (by decide +kernel) rfl
theorem mq_273 : Cond.fieldLink "PadeWorkbench$Register" 27 "PadeWorkbench$Register" "size" "I" ∈ pw_gt := pw_gt_at 273 (by decide +kernel) rfl
theorem mq_275 : Cond.lays "PadeWorkbench$Register" "PadeWorkbench$Register" "connection" "[I" ∈ pw_gt := pw_gt_at 275 (by decide +kernel) rfl
theorem mq_277 : Cond.lays "PadeWorkbench$Register" "PadeWorkbench$Register" "older" "[I" ∈ pw_gt := pw_gt_at 277 (by decide +kernel) rfl
theorem mq_279 : Cond.lays "PadeWorkbench$Register" "PadeWorkbench$Register" "spareRow" "[I" ∈ pw_gt := pw_gt_at 279 (by decide +kernel) rfl
theorem mq_281 : Cond.lays "PadeWorkbench$Register" "PadeWorkbench$Register" "size" "I" ∈ pw_gt := pw_gt_at 281 (by decide +kernel) rfl
theorem mq_284 : Cond.fieldLink "PadeWorkbench" 10 "PadeWorkbench" "now" "LPadeWorkbench$State;" ∈ pw_gt := pw_gt_at 284 (by decide +kernel) rfl
theorem mq_285 : Cond.fieldLink "PadeWorkbench" 19 "PadeWorkbench" "history" "LPadeWorkbench$History;" ∈ pw_gt := pw_gt_at 285 (by decide +kernel) rfl
theorem mq_286 : Cond.fieldLink "PadeWorkbench" 26 "PadeWorkbench" "text" "LPadeWorkbench$FractionText;" ∈ pw_gt := pw_gt_at 286 (by decide +kernel) rfl
theorem mq_287 : Cond.fieldLink "PadeWorkbench" 33 "PadeWorkbench" "euclid" "LPadeWorkbench$Euclid;" ∈ pw_gt := pw_gt_at 287 (by decide +kernel) rfl
theorem mq_288 : Cond.fieldLink "PadeWorkbench" 40 "PadeWorkbench" "fraction" "LPadeWorkbench$Fraction;" ∈ pw_gt := pw_gt_at 288 (by decide +kernel) rfl
theorem mq_289 : Cond.fieldLink "PadeWorkbench" 47 "PadeWorkbench" "toeplitz" "LPadeWorkbench$Toeplitz;" ∈ pw_gt := pw_gt_at 289 (by decide +kernel) rfl
theorem mq_290 : Cond.fieldLink "PadeWorkbench" 54 "PadeWorkbench" "scheme" "LPadeWorkbench$Scheme;" ∈ pw_gt := pw_gt_at 290 (by decide +kernel) rfl
theorem mq_291 : Cond.fieldLink "PadeWorkbench" 61 "PadeWorkbench" "register" "LPadeWorkbench$Register;" ∈ pw_gt := pw_gt_at 291 (by decide +kernel) rfl
theorem mq_292 : Cond.fieldLink "PadeWorkbench" 65 "PadeWorkbench" "result" "[I" ∈ pw_gt := pw_gt_at 292 (by decide +kernel) rfl
theorem mq_293 : Cond.fieldLink "PadeWorkbench" 69 "PadeWorkbench" "spare" "[I" ∈ pw_gt := pw_gt_at 293 (by decide +kernel) rfl
theorem mq_294 : Cond.fieldLink "PadeWorkbench" 72 "PadeWorkbench" "errors" "[I" ∈ pw_gt := pw_gt_at 294 (by decide +kernel) rfl
theorem mq_295 : Cond.laysFinal "PadeWorkbench" "PadeWorkbench" "now" "LPadeWorkbench$State;" ∈ pw_gt := pw_gt_at 295 (by decide +kernel) rfl
theorem mq_297 : Cond.laysFinal "PadeWorkbench" "PadeWorkbench" "history" "LPadeWorkbench$History;" ∈ pw_gt := pw_gt_at 297 (by decide +kernel) rfl
theorem mq_299 : Cond.laysFinal "PadeWorkbench" "PadeWorkbench" "text" "LPadeWorkbench$FractionText;" ∈ pw_gt := pw_gt_at 299 (by decide +kernel) rfl
theorem mq_301 : Cond.laysFinal "PadeWorkbench" "PadeWorkbench" "euclid" "LPadeWorkbench$Euclid;" ∈ pw_gt := pw_gt_at 301 (by decide +kernel) rfl
theorem mq_303 : Cond.laysFinal "PadeWorkbench" "PadeWorkbench" "fraction" "LPadeWorkbench$Fraction;" ∈ pw_gt := pw_gt_at 303 (by decide +kernel) rfl
theorem mq_305 : Cond.laysFinal "PadeWorkbench" "PadeWorkbench" "toeplitz" "LPadeWorkbench$Toeplitz;" ∈ pw_gt := pw_gt_at 305 (by decide +kernel) rfl
theorem mq_307 : Cond.laysFinal "PadeWorkbench" "PadeWorkbench" "scheme" "LPadeWorkbench$Scheme;" ∈ pw_gt := pw_gt_at 307 (by decide +kernel) rfl
theorem mq_309 : Cond.laysFinal "PadeWorkbench" "PadeWorkbench" "register" "LPadeWorkbench$Register;" ∈ pw_gt := pw_gt_at 309 (by decide +kernel) rfl
theorem mq_311 : Cond.laysFinal "PadeWorkbench" "PadeWorkbench" "result" "[I" ∈ pw_gt := pw_gt_at 311 (by decide +kernel) rfl
theorem mq_313 : Cond.laysFinal "PadeWorkbench" "PadeWorkbench" "spare" "[I" ∈ pw_gt := pw_gt_at 313 (by decide +kernel) rfl
theorem mq_315 : Cond.laysFinal "PadeWorkbench" "PadeWorkbench" "errors" "[I" ∈ pw_gt := pw_gt_at 315 (by decide +kernel) rfl
theorem mq_319 : Cond.instanceMethod my_W_setPrime ∈ pw_gt := pw_gt_at 319 (by decide +kernel) rfl
theorem mq_320 : Cond.selects "PadeWorkbench" my_W_setPrime my_W_setPrime ∈ pw_gt := pw_gt_at 320 (by decide +kernel) rfl
theorem mq_321 : Cond.code my_W_setPrime prog_1_method_2_code 3 (some .int) ∈ pw_gt := pw_gt_at 321 (by decide +kernel) rfl
theorem mq_322 : Cond.methodLink "PadeWorkbench" 75 my_W_isPrime ∈ pw_gt := pw_gt_at 322 (by decide +kernel) rfl
theorem mq_323 : Cond.static my_W_isPrime ∈ pw_gt := pw_gt_at 323 (by decide +kernel) rfl
theorem mq_324 : Cond.code my_W_isPrime prog_1_method_44_code 2 (some .boolean) ∈ pw_gt := pw_gt_at 324 (by decide +kernel) rfl
theorem mq_325 : Cond.methodLink "PadeWorkbench" 79 my_W_fail ∈ pw_gt := pw_gt_at 325 (by decide +kernel) rfl
theorem mq_327 : Cond.instanceMethod my_W_fail ∈ pw_gt := pw_gt_at 327 (by decide +kernel) rfl
theorem mq_328 : Cond.code my_W_fail prog_1_method_37_code 3 (some .int) ∈ pw_gt := pw_gt_at 328 (by decide +kernel) rfl
theorem mq_329 : Cond.methodLink "PadeWorkbench" 87 my_H_keep ∈ pw_gt := pw_gt_at 329 (by decide +kernel) rfl
theorem mq_330 : Cond.instanceMethod my_H_keep ∈ pw_gt := pw_gt_at 330 (by decide +kernel) rfl
theorem mq_331 : Cond.selects "PadeWorkbench$History" my_H_keep my_H_keep ∈ pw_gt := pw_gt_at 331 (by decide +kernel) rfl
theorem mq_332 : Cond.code my_H_keep prog_6_method_2_code 2 none ∈ pw_gt := pw_gt_at 332 (by decide +kernel) rfl
theorem mq_333 : Cond.methodLink "PadeWorkbench$History" 22 my_Z_copyFrom ∈ pw_gt := pw_gt_at 333 (by decide +kernel) rfl
theorem mq_334 : Cond.instanceMethod my_Z_copyFrom ∈ pw_gt := pw_gt_at 334 (by decide +kernel) rfl
theorem mq_335 : Cond.selects "PadeWorkbench$State" my_Z_copyFrom my_Z_copyFrom ∈ pw_gt := pw_gt_at 335 (by decide +kernel) rfl
theorem mq_336 : Cond.code my_Z_copyFrom prog_11_method_2_code 3 none ∈ pw_gt := pw_gt_at 336 (by decide +kernel) rfl
theorem mq_337 : Cond.methodLink "PadeWorkbench$State" 27 arraycopyName ∈ pw_gt := pw_gt_at 337 (by decide +kernel) rfl
theorem mq_338 : Cond.static arraycopyName ∈ pw_gt := pw_gt_at 338 (by decide +kernel) rfl
theorem mq_339 : Cond.native arraycopyName ∈ pw_gt := pw_gt_at 339 (by decide +kernel) rfl
theorem mq_340 : Cond.methodLink "PadeWorkbench" 91 my_Z_restart ∈ pw_gt := pw_gt_at 340 (by decide +kernel) rfl
theorem mq_341 : Cond.instanceMethod my_Z_restart ∈ pw_gt := pw_gt_at 341 (by decide +kernel) rfl
theorem mq_342 : Cond.selects "PadeWorkbench$State" my_Z_restart my_Z_restart ∈ pw_gt := pw_gt_at 342 (by decide +kernel) rfl
theorem mq_343 : Cond.code my_Z_restart prog_11_method_3_code 3 none ∈ pw_gt := pw_gt_at 343 (by decide +kernel) rfl
theorem mq_344 : Cond.methodLink "PadeWorkbench$State" 36 my_A_fill ∈ pw_gt := pw_gt_at 344 (by decide +kernel) rfl
theorem mq_345 : Cond.static my_A_fill ∈ pw_gt := pw_gt_at 345 (by decide +kernel) rfl
theorem mq_346 : Cond.code my_A_fill prog_16_method_103_code 4 none ∈ pw_gt := pw_gt_at 346 (by decide +kernel) rfl
theorem mq_348 : Cond.instanceMethod my_W_set ∈ pw_gt := pw_gt_at 348 (by decide +kernel) rfl
theorem mq_349 : Cond.selects "PadeWorkbench" my_W_set my_W_set ∈ pw_gt := pw_gt_at 349 (by decide +kernel) rfl
theorem mq_350 : Cond.code my_W_set prog_1_method_3_code 5 (some .int) ∈ pw_gt := pw_gt_at 350 (by decide +kernel) rfl
theorem mq_351 : Cond.methodLink "PadeWorkbench" 95 my_W_isSlot ∈ pw_gt := pw_gt_at 351 (by decide +kernel) rfl
theorem mq_352 : Cond.static my_W_isSlot ∈ pw_gt := pw_gt_at 352 (by decide +kernel) rfl
theorem mq_353 : Cond.code my_W_isSlot prog_1_method_38_code 1 (some .boolean) ∈ pw_gt := pw_gt_at 353 (by decide +kernel) rfl
theorem mq_354 : Cond.methodLink "PadeWorkbench" 98 my_W_isTerm ∈ pw_gt := pw_gt_at 354 (by decide +kernel) rfl
theorem mq_355 : Cond.static my_W_isTerm ∈ pw_gt := pw_gt_at 355 (by decide +kernel) rfl
theorem mq_356 : Cond.code my_W_isTerm prog_1_method_39_code 1 (some .boolean) ∈ pw_gt := pw_gt_at 356 (by decide +kernel) rfl
theorem mq_357 : Cond.methodLink "PadeWorkbench" 101 my_W_isElement ∈ pw_gt := pw_gt_at 357 (by decide +kernel) rfl
theorem mq_359 : Cond.instanceMethod my_W_isElement ∈ pw_gt := pw_gt_at 359 (by decide +kernel) rfl
theorem mq_360 : Cond.code my_W_isElement prog_1_method_40_code 2 (some .boolean) ∈ pw_gt := pw_gt_at 360 (by decide +kernel) rfl
theorem mq_362 : Cond.instanceMethod my_W_coefficient ∈ pw_gt := pw_gt_at 362 (by decide +kernel) rfl
theorem mq_363 : Cond.selects "PadeWorkbench" my_W_coefficient my_W_coefficient ∈ pw_gt := pw_gt_at 363 (by decide +kernel) rfl
theorem mq_364 : Cond.code my_W_coefficient prog_1_method_4_code 3 (some .int) ∈ pw_gt := pw_gt_at 364 (by decide +kernel) rfl
theorem mq_366 : Cond.instanceMethod my_W_add ∈ pw_gt := pw_gt_at 366 (by decide +kernel) rfl
theorem mq_367 : Cond.selects "PadeWorkbench" my_W_add my_W_add ∈ pw_gt := pw_gt_at 367 (by decide +kernel) rfl
theorem mq_368 : Cond.code my_W_add prog_1_method_5_code 4 (some .int) ∈ pw_gt := pw_gt_at 368 (by decide +kernel) rfl
theorem mq_369 : Cond.methodLink "PadeWorkbench" 108 my_S_sum ∈ pw_gt := pw_gt_at 369 (by decide +kernel) rfl
theorem mq_370 : Cond.static my_S_sum ∈ pw_gt := pw_gt_at 370 (by decide +kernel) rfl
theorem mq_371 : Cond.code my_S_sum prog_10_method_2_code 5 none ∈ pw_gt := pw_gt_at 371 (by decide +kernel) rfl
theorem mq_372 : Cond.methodLink "PadeWorkbench$Series" 9 my_K_reduce ∈ pw_gt := pw_gt_at 372 (by decide +kernel) rfl
theorem mq_373 : Cond.static my_K_reduce ∈ pw_gt := pw_gt_at 373 (by decide +kernel) rfl
theorem mq_374 : Cond.code my_K_reduce prog_3_method_2_code 2 (some .int) ∈ pw_gt := pw_gt_at 374 (by decide +kernel) rfl
theorem mq_375 : Cond.methodLink "PadeWorkbench" 114 my_W_store ∈ pw_gt := pw_gt_at 375 (by decide +kernel) rfl
theorem mq_377 : Cond.instanceMethod my_W_store ∈ pw_gt := pw_gt_at 377 (by decide +kernel) rfl
theorem mq_378 : Cond.code my_W_store prog_1_method_45_code 2 (some .int) ∈ pw_gt := pw_gt_at 378 (by decide +kernel) rfl
theorem mq_379 : Cond.methodLink "PadeWorkbench" 270 arraycopyName ∈ pw_gt := pw_gt_at 379 (by decide +kernel) rfl
theorem mq_380 : Cond.methodLink "PadeWorkbench" 276 my_S_countOfNonZero ∈ pw_gt := pw_gt_at 380 (by decide +kernel) rfl
theorem mq_381 : Cond.static my_S_countOfNonZero ∈ pw_gt := pw_gt_at 381 (by decide +kernel) rfl
theorem mq_382 : Cond.code my_S_countOfNonZero prog_10_method_6_code 3 (some .int) ∈ pw_gt := pw_gt_at 382 (by decide +kernel) rfl
theorem mq_384 : Cond.instanceMethod my_W_multiply ∈ pw_gt := pw_gt_at 384 (by decide +kernel) rfl
theorem mq_385 : Cond.selects "PadeWorkbench" my_W_multiply my_W_multiply ∈ pw_gt := pw_gt_at 385 (by decide +kernel) rfl
theorem mq_386 : Cond.code my_W_multiply prog_1_method_6_code 4 (some .int) ∈ pw_gt := pw_gt_at 386 (by decide +kernel) rfl
theorem mq_387 : Cond.methodLink "PadeWorkbench" 117 my_S_product ∈ pw_gt := pw_gt_at 387 (by decide +kernel) rfl
theorem mq_388 : Cond.static my_S_product ∈ pw_gt := pw_gt_at 388 (by decide +kernel) rfl
theorem mq_389 : Cond.code my_S_product prog_10_method_3_code 7 none ∈ pw_gt := pw_gt_at 389 (by decide +kernel) rfl
theorem mq_391 : Cond.instanceMethod my_W_invert ∈ pw_gt := pw_gt_at 391 (by decide +kernel) rfl
theorem mq_392 : Cond.selects "PadeWorkbench" my_W_invert my_W_invert ∈ pw_gt := pw_gt_at 392 (by decide +kernel) rfl
theorem mq_393 : Cond.code my_W_invert prog_1_method_7_code 3 (some .int) ∈ pw_gt := pw_gt_at 393 (by decide +kernel) rfl
theorem mq_394 : Cond.methodLink "PadeWorkbench" 120 my_S_reciprocal ∈ pw_gt := pw_gt_at 394 (by decide +kernel) rfl
theorem mq_395 : Cond.static my_S_reciprocal ∈ pw_gt := pw_gt_at 395 (by decide +kernel) rfl
theorem mq_396 : Cond.code my_S_reciprocal prog_10_method_4_code 7 none ∈ pw_gt := pw_gt_at 396 (by decide +kernel) rfl
theorem mq_397 : Cond.methodLink "PadeWorkbench$Series" 15 my_K_inverse ∈ pw_gt := pw_gt_at 397 (by decide +kernel) rfl
theorem mq_398 : Cond.static my_K_inverse ∈ pw_gt := pw_gt_at 398 (by decide +kernel) rfl
theorem mq_399 : Cond.code my_K_inverse prog_3_method_5_code 5 (some .int) ∈ pw_gt := pw_gt_at 399 (by decide +kernel) rfl
theorem mq_400 : Cond.methodLink "PadeWorkbench$Field" 7 my_K_reduce ∈ pw_gt := pw_gt_at 400 (by decide +kernel) rfl
theorem mq_401 : Cond.methodLink "PadeWorkbench$Series" 18 my_K_times ∈ pw_gt := pw_gt_at 401 (by decide +kernel) rfl
theorem mq_402 : Cond.static my_K_times ∈ pw_gt := pw_gt_at 402 (by decide +kernel) rfl
theorem mq_403 : Cond.code my_K_times prog_3_method_4_code 3 (some .int) ∈ pw_gt := pw_gt_at 403 (by decide +kernel) rfl
theorem mq_404 : Cond.methodLink "PadeWorkbench$Series" 22 my_K_negative ∈ pw_gt := pw_gt_at 404 (by decide +kernel) rfl
theorem mq_405 : Cond.static my_K_negative ∈ pw_gt := pw_gt_at 405 (by decide +kernel) rfl
theorem mq_406 : Cond.code my_K_negative prog_3_method_3_code 2 (some .int) ∈ pw_gt := pw_gt_at 406 (by decide +kernel) rfl
theorem mq_408 : Cond.instanceMethod my_W_substitute ∈ pw_gt := pw_gt_at 408 (by decide +kernel) rfl
theorem mq_409 : Cond.selects "PadeWorkbench" my_W_substitute my_W_substitute ∈ pw_gt := pw_gt_at 409 (by decide +kernel) rfl
theorem mq_410 : Cond.code my_W_substitute prog_1_method_8_code 4 (some .int) ∈ pw_gt := pw_gt_at 410 (by decide +kernel) rfl
theorem mq_411 : Cond.methodLink "PadeWorkbench" 124 my_W_composeIntoResult ∈ pw_gt := pw_gt_at 411 (by decide +kernel) rfl
theorem mq_413 : Cond.instanceMethod my_W_composeIntoResult ∈ pw_gt := pw_gt_at 413 (by decide +kernel) rfl
theorem mq_414 : Cond.code my_W_composeIntoResult prog_1_method_46_code 4 none ∈ pw_gt := pw_gt_at 414 (by decide +kernel) rfl
theorem mq_415 : Cond.methodLink "PadeWorkbench" 280 my_A_fill ∈ pw_gt := pw_gt_at 415 (by decide +kernel) rfl
theorem mq_416 : Cond.methodLink "PadeWorkbench" 286 my_K_reduce ∈ pw_gt := pw_gt_at 416 (by decide +kernel) rfl
theorem mq_418 : Cond.instanceMethod my_W_derivative ∈ pw_gt := pw_gt_at 418 (by decide +kernel) rfl
theorem mq_419 : Cond.selects "PadeWorkbench" my_W_derivative my_W_derivative ∈ pw_gt := pw_gt_at 419 (by decide +kernel) rfl
theorem mq_420 : Cond.code my_W_derivative prog_1_method_9_code 3 (some .int) ∈ pw_gt := pw_gt_at 420 (by decide +kernel) rfl
theorem mq_421 : Cond.methodLink "PadeWorkbench" 128 my_S_slope ∈ pw_gt := pw_gt_at 421 (by decide +kernel) rfl
theorem mq_422 : Cond.static my_S_slope ∈ pw_gt := pw_gt_at 422 (by decide +kernel) rfl
theorem mq_423 : Cond.code my_S_slope prog_10_method_5_code 4 none ∈ pw_gt := pw_gt_at 423 (by decide +kernel) rfl
theorem mq_425 : Cond.instanceMethod my_W_append ∈ pw_gt := pw_gt_at 425 (by decide +kernel) rfl
theorem mq_426 : Cond.selects "PadeWorkbench" my_W_append my_W_append ∈ pw_gt := pw_gt_at 426 (by decide +kernel) rfl
theorem mq_427 : Cond.code my_W_append prog_1_method_10_code 2 (some .int) ∈ pw_gt := pw_gt_at 427 (by decide +kernel) rfl
theorem mq_428 : Cond.methodLink "PadeWorkbench" 134 my_T_put ∈ pw_gt := pw_gt_at 428 (by decide +kernel) rfl
theorem mq_429 : Cond.instanceMethod my_T_put ∈ pw_gt := pw_gt_at 429 (by decide +kernel) rfl
theorem mq_430 : Cond.selects "PadeWorkbench$FractionText" my_T_put my_T_put ∈ pw_gt := pw_gt_at 430 (by decide +kernel) rfl
theorem mq_431 : Cond.code my_T_put prog_5_method_2_code 2 none ∈ pw_gt := pw_gt_at 431 (by decide +kernel) rfl
theorem mq_433 : Cond.instanceMethod my_W_clearText ∈ pw_gt := pw_gt_at 433 (by decide +kernel) rfl
theorem mq_434 : Cond.selects "PadeWorkbench" my_W_clearText my_W_clearText ∈ pw_gt := pw_gt_at 434 (by decide +kernel) rfl
theorem mq_435 : Cond.code my_W_clearText prog_1_method_11_code 2 (some .int) ∈ pw_gt := pw_gt_at 435 (by decide +kernel) rfl
theorem mq_437 : Cond.instanceMethod my_W_parse ∈ pw_gt := pw_gt_at 437 (by decide +kernel) rfl
theorem mq_438 : Cond.selects "PadeWorkbench" my_W_parse my_W_parse ∈ pw_gt := pw_gt_at 438 (by decide +kernel) rfl
theorem mq_439 : Cond.code my_W_parse prog_1_method_12_code 2 (some .int) ∈ pw_gt := pw_gt_at 439 (by decide +kernel) rfl
theorem mq_440 : Cond.methodLink "PadeWorkbench" 137 my_T_readFraction ∈ pw_gt := pw_gt_at 440 (by decide +kernel) rfl
theorem mq_441 : Cond.instanceMethod my_T_readFraction ∈ pw_gt := pw_gt_at 441 (by decide +kernel) rfl
theorem mq_442 : Cond.selects "PadeWorkbench$FractionText" my_T_readFraction my_T_readFraction ∈ pw_gt := pw_gt_at 442 (by decide +kernel) rfl
theorem mq_443 : Cond.code my_T_readFraction prog_5_method_3_code 2 (some .boolean) ∈ pw_gt := pw_gt_at 443 (by decide +kernel) rfl
theorem mq_444 : Cond.methodLink "PadeWorkbench$FractionText" 31 my_A_fill ∈ pw_gt := pw_gt_at 444 (by decide +kernel) rfl
theorem mq_445 : Cond.methodLink "PadeWorkbench$FractionText" 37 my_T_readPolynomial ∈ pw_gt := pw_gt_at 445 (by decide +kernel) rfl
theorem mq_447 : Cond.instanceMethod my_T_readPolynomial ∈ pw_gt := pw_gt_at 447 (by decide +kernel) rfl
theorem mq_448 : Cond.code my_T_readPolynomial prog_5_method_4_code 4 (some .boolean) ∈ pw_gt := pw_gt_at 448 (by decide +kernel) rfl
theorem mq_449 : Cond.methodLink "PadeWorkbench$FractionText" 41 my_T_took ∈ pw_gt := pw_gt_at 449 (by decide +kernel) rfl
theorem mq_451 : Cond.instanceMethod my_T_took ∈ pw_gt := pw_gt_at 451 (by decide +kernel) rfl
theorem mq_452 : Cond.code my_T_took prog_5_method_8_code 2 (some .boolean) ∈ pw_gt := pw_gt_at 452 (by decide +kernel) rfl
theorem mq_453 : Cond.methodLink "PadeWorkbench$FractionText" 45 my_T_peek ∈ pw_gt := pw_gt_at 453 (by decide +kernel) rfl
theorem mq_455 : Cond.instanceMethod my_T_peek ∈ pw_gt := pw_gt_at 455 (by decide +kernel) rfl
theorem mq_456 : Cond.code my_T_peek prog_5_method_9_code 1 (some .int) ∈ pw_gt := pw_gt_at 456 (by decide +kernel) rfl
theorem mq_457 : Cond.methodLink "PadeWorkbench$FractionText" 68 my_T_here ∈ pw_gt := pw_gt_at 457 (by decide +kernel) rfl
theorem mq_459 : Cond.instanceMethod my_T_here ∈ pw_gt := pw_gt_at 459 (by decide +kernel) rfl
theorem mq_460 : Cond.code my_T_here prog_5_method_10_code 1 (some .int) ∈ pw_gt := pw_gt_at 460 (by decide +kernel) rfl
theorem mq_461 : Cond.methodLink "PadeWorkbench$FractionText" 49 my_T_readTerm ∈ pw_gt := pw_gt_at 461 (by decide +kernel) rfl
theorem mq_463 : Cond.instanceMethod my_T_readTerm ∈ pw_gt := pw_gt_at 463 (by decide +kernel) rfl
theorem mq_464 : Cond.code my_T_readTerm prog_5_method_5_code 7 (some .boolean) ∈ pw_gt := pw_gt_at 464 (by decide +kernel) rfl
theorem mq_465 : Cond.methodLink "PadeWorkbench$FractionText" 53 my_T_isDigit ∈ pw_gt := pw_gt_at 465 (by decide +kernel) rfl
theorem mq_466 : Cond.static my_T_isDigit ∈ pw_gt := pw_gt_at 466 (by decide +kernel) rfl
theorem mq_467 : Cond.code my_T_isDigit prog_5_method_11_code 1 (some .boolean) ∈ pw_gt := pw_gt_at 467 (by decide +kernel) rfl
theorem mq_468 : Cond.methodLink "PadeWorkbench$FractionText" 56 my_T_readNumber ∈ pw_gt := pw_gt_at 468 (by decide +kernel) rfl
theorem mq_470 : Cond.instanceMethod my_T_readNumber ∈ pw_gt := pw_gt_at 470 (by decide +kernel) rfl
theorem mq_471 : Cond.code my_T_readNumber prog_5_method_6_code 3 (some .int) ∈ pw_gt := pw_gt_at 471 (by decide +kernel) rfl
theorem mq_472 : Cond.methodLink "PadeWorkbench$FractionText" 59 my_T_readExponent ∈ pw_gt := pw_gt_at 472 (by decide +kernel) rfl
theorem mq_474 : Cond.instanceMethod my_T_readExponent ∈ pw_gt := pw_gt_at 474 (by decide +kernel) rfl
theorem mq_475 : Cond.code my_T_readExponent prog_5_method_7_code 3 (some .int) ∈ pw_gt := pw_gt_at 475 (by decide +kernel) rfl
theorem mq_476 : Cond.methodLink "PadeWorkbench$FractionText" 62 my_K_reduce ∈ pw_gt := pw_gt_at 476 (by decide +kernel) rfl
theorem mq_478 : Cond.instanceMethod my_W_numeratorDegree ∈ pw_gt := pw_gt_at 478 (by decide +kernel) rfl
theorem mq_479 : Cond.selects "PadeWorkbench" my_W_numeratorDegree my_W_numeratorDegree ∈ pw_gt := pw_gt_at 479 (by decide +kernel) rfl
theorem mq_480 : Cond.code my_W_numeratorDegree prog_1_method_13_code 4 (some .int) ∈ pw_gt := pw_gt_at 480 (by decide +kernel) rfl
theorem mq_481 : Cond.methodLink "PadeWorkbench" 149 my_W_isApproximant ∈ pw_gt := pw_gt_at 481 (by decide +kernel) rfl
theorem mq_482 : Cond.static my_W_isApproximant ∈ pw_gt := pw_gt_at 482 (by decide +kernel) rfl
theorem mq_483 : Cond.code my_W_isApproximant prog_1_method_41_code 3 (some .boolean) ∈ pw_gt := pw_gt_at 483 (by decide +kernel) rfl
theorem mq_484 : Cond.methodLink "PadeWorkbench" 153 my_W_approximate ∈ pw_gt := pw_gt_at 484 (by decide +kernel) rfl
theorem mq_486 : Cond.instanceMethod my_W_approximate ∈ pw_gt := pw_gt_at 486 (by decide +kernel) rfl
theorem mq_487 : Cond.code my_W_approximate prog_1_method_47_code 4 none ∈ pw_gt := pw_gt_at 487 (by decide +kernel) rfl
theorem mq_488 : Cond.methodLink "PadeWorkbench" 198 my_E_startWithSeries ∈ pw_gt := pw_gt_at 488 (by decide +kernel) rfl
theorem mq_489 : Cond.instanceMethod my_E_startWithSeries ∈ pw_gt := pw_gt_at 489 (by decide +kernel) rfl
theorem mq_490 : Cond.selects "PadeWorkbench$Euclid" my_E_startWithSeries my_E_startWithSeries ∈ pw_gt := pw_gt_at 490 (by decide +kernel) rfl
theorem mq_491 : Cond.code my_E_startWithSeries prog_2_method_2_code 4 none ∈ pw_gt := pw_gt_at 491 (by decide +kernel) rfl
theorem mq_492 : Cond.methodLink "PadeWorkbench$Euclid" 34 my_P_becomePower ∈ pw_gt := pw_gt_at 492 (by decide +kernel) rfl
theorem mq_493 : Cond.instanceMethod my_P_becomePower ∈ pw_gt := pw_gt_at 493 (by decide +kernel) rfl
theorem mq_494 : Cond.selects "PadeWorkbench$Polynomial" my_P_becomePower my_P_becomePower ∈ pw_gt := pw_gt_at 494 (by decide +kernel) rfl
theorem mq_495 : Cond.code my_P_becomePower prog_7_method_3_code 2 none ∈ pw_gt := pw_gt_at 495 (by decide +kernel) rfl
theorem mq_496 : Cond.methodLink "PadeWorkbench$Polynomial" 25 my_P_becomeZero ∈ pw_gt := pw_gt_at 496 (by decide +kernel) rfl
theorem mq_497 : Cond.instanceMethod my_P_becomeZero ∈ pw_gt := pw_gt_at 497 (by decide +kernel) rfl
theorem mq_498 : Cond.selects "PadeWorkbench$Polynomial" my_P_becomeZero my_P_becomeZero ∈ pw_gt := pw_gt_at 498 (by decide +kernel) rfl
theorem mq_499 : Cond.code my_P_becomeZero prog_7_method_2_code 1 none ∈ pw_gt := pw_gt_at 499 (by decide +kernel) rfl
theorem mq_500 : Cond.methodLink "PadeWorkbench$Polynomial" 19 my_A_fill ∈ pw_gt := pw_gt_at 500 (by decide +kernel) rfl
theorem mq_501 : Cond.methodLink "PadeWorkbench$Euclid" 38 my_P_becomeStart ∈ pw_gt := pw_gt_at 501 (by decide +kernel) rfl
theorem mq_502 : Cond.instanceMethod my_P_becomeStart ∈ pw_gt := pw_gt_at 502 (by decide +kernel) rfl
theorem mq_503 : Cond.selects "PadeWorkbench$Polynomial" my_P_becomeStart my_P_becomeStart ∈ pw_gt := pw_gt_at 503 (by decide +kernel) rfl
theorem mq_504 : Cond.code my_P_becomeStart prog_7_method_4_code 4 none ∈ pw_gt := pw_gt_at 504 (by decide +kernel) rfl
theorem mq_505 : Cond.methodLink "PadeWorkbench$Polynomial" 28 my_P_measure ∈ pw_gt := pw_gt_at 505 (by decide +kernel) rfl
theorem mq_506 : Cond.instanceMethod my_P_measure ∈ pw_gt := pw_gt_at 506 (by decide +kernel) rfl
theorem mq_507 : Cond.selects "PadeWorkbench$Polynomial" my_P_measure my_P_measure ∈ pw_gt := pw_gt_at 507 (by decide +kernel) rfl
theorem mq_508 : Cond.code my_P_measure prog_7_method_6_code 1 none ∈ pw_gt := pw_gt_at 508 (by decide +kernel) rfl
theorem mq_509 : Cond.methodLink "PadeWorkbench$Euclid" 42 my_E_startCofactors ∈ pw_gt := pw_gt_at 509 (by decide +kernel) rfl
theorem mq_511 : Cond.instanceMethod my_E_startCofactors ∈ pw_gt := pw_gt_at 511 (by decide +kernel) rfl
theorem mq_512 : Cond.code my_E_startCofactors prog_2_method_4_code 1 none ∈ pw_gt := pw_gt_at 512 (by decide +kernel) rfl
theorem mq_513 : Cond.methodLink "PadeWorkbench$Euclid" 50 my_P_becomeZero ∈ pw_gt := pw_gt_at 513 (by decide +kernel) rfl
theorem mq_514 : Cond.methodLink "PadeWorkbench" 289 my_E_runDownTo ∈ pw_gt := pw_gt_at 514 (by decide +kernel) rfl
theorem mq_515 : Cond.instanceMethod my_E_runDownTo ∈ pw_gt := pw_gt_at 515 (by decide +kernel) rfl
theorem mq_516 : Cond.selects "PadeWorkbench$Euclid" my_E_runDownTo my_E_runDownTo ∈ pw_gt := pw_gt_at 516 (by decide +kernel) rfl
theorem mq_517 : Cond.code my_E_runDownTo prog_2_method_5_code 3 none ∈ pw_gt := pw_gt_at 517 (by decide +kernel) rfl
theorem mq_518 : Cond.methodLink "PadeWorkbench$Euclid" 90 my_E_divide ∈ pw_gt := pw_gt_at 518 (by decide +kernel) rfl
theorem mq_519 : Cond.instanceMethod my_E_divide ∈ pw_gt := pw_gt_at 519 (by decide +kernel) rfl
theorem mq_520 : Cond.selects "PadeWorkbench$Euclid" my_E_divide my_E_divide ∈ pw_gt := pw_gt_at 520 (by decide +kernel) rfl
theorem mq_521 : Cond.code my_E_divide prog_2_method_6_code 4 none ∈ pw_gt := pw_gt_at 521 (by decide +kernel) rfl
theorem mq_522 : Cond.methodLink "PadeWorkbench$Euclid" 99 my_K_inverse ∈ pw_gt := pw_gt_at 522 (by decide +kernel) rfl
theorem mq_523 : Cond.methodLink "PadeWorkbench$Euclid" 102 my_K_times ∈ pw_gt := pw_gt_at 523 (by decide +kernel) rfl
theorem mq_524 : Cond.methodLink "PadeWorkbench$Euclid" 105 my_K_negative ∈ pw_gt := pw_gt_at 524 (by decide +kernel) rfl
theorem mq_525 : Cond.methodLink "PadeWorkbench$Euclid" 76 my_P_gather ∈ pw_gt := pw_gt_at 525 (by decide +kernel) rfl
theorem mq_526 : Cond.instanceMethod my_P_gather ∈ pw_gt := pw_gt_at 526 (by decide +kernel) rfl
theorem mq_527 : Cond.selects "PadeWorkbench$Polynomial" my_P_gather my_P_gather ∈ pw_gt := pw_gt_at 527 (by decide +kernel) rfl
theorem mq_528 : Cond.code my_P_gather prog_7_method_8_code 6 none ∈ pw_gt := pw_gt_at 528 (by decide +kernel) rfl
theorem mq_529 : Cond.methodLink "PadeWorkbench$Polynomial" 37 my_K_reduce ∈ pw_gt := pw_gt_at 529 (by decide +kernel) rfl
theorem mq_530 : Cond.methodLink "PadeWorkbench$Euclid" 80 my_P_measure ∈ pw_gt := pw_gt_at 530 (by decide +kernel) rfl
theorem mq_531 : Cond.methodLink "PadeWorkbench$Euclid" 93 my_E_followWithCofactors ∈ pw_gt := pw_gt_at 531 (by decide +kernel) rfl
theorem mq_533 : Cond.instanceMethod my_E_followWithCofactors ∈ pw_gt := pw_gt_at 533 (by decide +kernel) rfl
theorem mq_534 : Cond.code my_E_followWithCofactors prog_2_method_7_code 3 none ∈ pw_gt := pw_gt_at 534 (by decide +kernel) rfl
theorem mq_535 : Cond.methodLink "PadeWorkbench" 295 my_R_take ∈ pw_gt := pw_gt_at 535 (by decide +kernel) rfl
theorem mq_536 : Cond.instanceMethod my_R_take ∈ pw_gt := pw_gt_at 536 (by decide +kernel) rfl
theorem mq_537 : Cond.selects "PadeWorkbench$Fraction" my_R_take my_R_take ∈ pw_gt := pw_gt_at 537 (by decide +kernel) rfl
theorem mq_538 : Cond.code my_R_take prog_4_method_2_code 3 none ∈ pw_gt := pw_gt_at 538 (by decide +kernel) rfl
theorem mq_539 : Cond.methodLink "PadeWorkbench$Fraction" 21 my_P_copyFrom ∈ pw_gt := pw_gt_at 539 (by decide +kernel) rfl
theorem mq_540 : Cond.instanceMethod my_P_copyFrom ∈ pw_gt := pw_gt_at 540 (by decide +kernel) rfl
theorem mq_541 : Cond.selects "PadeWorkbench$Polynomial" my_P_copyFrom my_P_copyFrom ∈ pw_gt := pw_gt_at 541 (by decide +kernel) rfl
theorem mq_542 : Cond.code my_P_copyFrom prog_7_method_5_code 2 none ∈ pw_gt := pw_gt_at 542 (by decide +kernel) rfl
theorem mq_543 : Cond.methodLink "PadeWorkbench$Polynomial" 31 arraycopyName ∈ pw_gt := pw_gt_at 543 (by decide +kernel) rfl
theorem mq_544 : Cond.methodLink "PadeWorkbench$Fraction" 29 my_P_becomePower ∈ pw_gt := pw_gt_at 544 (by decide +kernel) rfl
theorem mq_545 : Cond.methodLink "PadeWorkbench" 299 my_R_cancelRoot ∈ pw_gt := pw_gt_at 545 (by decide +kernel) rfl
theorem mq_546 : Cond.instanceMethod my_R_cancelRoot ∈ pw_gt := pw_gt_at 546 (by decide +kernel) rfl
theorem mq_547 : Cond.selects "PadeWorkbench$Fraction" my_R_cancelRoot my_R_cancelRoot ∈ pw_gt := pw_gt_at 547 (by decide +kernel) rfl
theorem mq_548 : Cond.code my_R_cancelRoot prog_4_method_3_code 4 none ∈ pw_gt := pw_gt_at 548 (by decide +kernel) rfl
theorem mq_549 : Cond.methodLink "PadeWorkbench$Fraction" 33 my_P_valueAt ∈ pw_gt := pw_gt_at 549 (by decide +kernel) rfl
theorem mq_550 : Cond.instanceMethod my_P_valueAt ∈ pw_gt := pw_gt_at 550 (by decide +kernel) rfl
theorem mq_551 : Cond.selects "PadeWorkbench$Polynomial" my_P_valueAt my_P_valueAt ∈ pw_gt := pw_gt_at 551 (by decide +kernel) rfl
theorem mq_552 : Cond.code my_P_valueAt prog_7_method_7_code 5 (some .int) ∈ pw_gt := pw_gt_at 552 (by decide +kernel) rfl
theorem mq_553 : Cond.methodLink "PadeWorkbench$Fraction" 37 my_P_divideByRoot ∈ pw_gt := pw_gt_at 553 (by decide +kernel) rfl
theorem mq_554 : Cond.instanceMethod my_P_divideByRoot ∈ pw_gt := pw_gt_at 554 (by decide +kernel) rfl
theorem mq_555 : Cond.selects "PadeWorkbench$Polynomial" my_P_divideByRoot my_P_divideByRoot ∈ pw_gt := pw_gt_at 555 (by decide +kernel) rfl
theorem mq_556 : Cond.code my_P_divideByRoot prog_7_method_11_code 6 none ∈ pw_gt := pw_gt_at 556 (by decide +kernel) rfl
theorem mq_557 : Cond.methodLink "PadeWorkbench" 302 my_R_scale ∈ pw_gt := pw_gt_at 557 (by decide +kernel) rfl
theorem mq_558 : Cond.instanceMethod my_R_scale ∈ pw_gt := pw_gt_at 558 (by decide +kernel) rfl
theorem mq_559 : Cond.selects "PadeWorkbench$Fraction" my_R_scale my_R_scale ∈ pw_gt := pw_gt_at 559 (by decide +kernel) rfl
theorem mq_560 : Cond.code my_R_scale prog_4_method_4_code 3 none ∈ pw_gt := pw_gt_at 560 (by decide +kernel) rfl
theorem mq_561 : Cond.methodLink "PadeWorkbench$Fraction" 41 my_P_lowest ∈ pw_gt := pw_gt_at 561 (by decide +kernel) rfl
theorem mq_562 : Cond.instanceMethod my_P_lowest ∈ pw_gt := pw_gt_at 562 (by decide +kernel) rfl
theorem mq_563 : Cond.selects "PadeWorkbench$Polynomial" my_P_lowest my_P_lowest ∈ pw_gt := pw_gt_at 563 (by decide +kernel) rfl
theorem mq_564 : Cond.code my_P_lowest prog_7_method_12_code 2 (some .int) ∈ pw_gt := pw_gt_at 564 (by decide +kernel) rfl
theorem mq_565 : Cond.methodLink "PadeWorkbench$Fraction" 45 my_K_inverse ∈ pw_gt := pw_gt_at 565 (by decide +kernel) rfl
theorem mq_566 : Cond.methodLink "PadeWorkbench$Fraction" 50 my_P_scaleBy ∈ pw_gt := pw_gt_at 566 (by decide +kernel) rfl
theorem mq_567 : Cond.instanceMethod my_P_scaleBy ∈ pw_gt := pw_gt_at 567 (by decide +kernel) rfl
theorem mq_568 : Cond.selects "PadeWorkbench$Polynomial" my_P_scaleBy my_P_scaleBy ∈ pw_gt := pw_gt_at 568 (by decide +kernel) rfl
theorem mq_569 : Cond.code my_P_scaleBy prog_7_method_9_code 4 none ∈ pw_gt := pw_gt_at 569 (by decide +kernel) rfl
theorem mq_570 : Cond.methodLink "PadeWorkbench$Polynomial" 43 my_K_times ∈ pw_gt := pw_gt_at 570 (by decide +kernel) rfl
theorem mq_572 : Cond.instanceMethod my_W_denominatorDegree ∈ pw_gt := pw_gt_at 572 (by decide +kernel) rfl
theorem mq_573 : Cond.selects "PadeWorkbench" my_W_denominatorDegree my_W_denominatorDegree ∈ pw_gt := pw_gt_at 573 (by decide +kernel) rfl
theorem mq_574 : Cond.code my_W_denominatorDegree prog_1_method_14_code 4 (some .int) ∈ pw_gt := pw_gt_at 574 (by decide +kernel) rfl
theorem mq_576 : Cond.instanceMethod my_W_numerator ∈ pw_gt := pw_gt_at 576 (by decide +kernel) rfl
theorem mq_577 : Cond.selects "PadeWorkbench" my_W_numerator my_W_numerator ∈ pw_gt := pw_gt_at 577 (by decide +kernel) rfl
theorem mq_578 : Cond.code my_W_numerator prog_1_method_15_code 5 (some .int) ∈ pw_gt := pw_gt_at 578 (by decide +kernel) rfl
theorem mq_580 : Cond.instanceMethod my_W_denominator ∈ pw_gt := pw_gt_at 580 (by decide +kernel) rfl
theorem mq_581 : Cond.selects "PadeWorkbench" my_W_denominator my_W_denominator ∈ pw_gt := pw_gt_at 581 (by decide +kernel) rfl
theorem mq_582 : Cond.code my_W_denominator prog_1_method_16_code 5 (some .int) ∈ pw_gt := pw_gt_at 582 (by decide +kernel) rfl
theorem mq_584 : Cond.instanceMethod my_W_order ∈ pw_gt := pw_gt_at 584 (by decide +kernel) rfl
theorem mq_585 : Cond.selects "PadeWorkbench" my_W_order my_W_order ∈ pw_gt := pw_gt_at 585 (by decide +kernel) rfl
theorem mq_586 : Cond.code my_W_order prog_1_method_17_code 4 (some .int) ∈ pw_gt := pw_gt_at 586 (by decide +kernel) rfl
theorem mq_587 : Cond.methodLink "PadeWorkbench" 170 my_R_agreement ∈ pw_gt := pw_gt_at 587 (by decide +kernel) rfl
theorem mq_588 : Cond.instanceMethod my_R_agreement ∈ pw_gt := pw_gt_at 588 (by decide +kernel) rfl
theorem mq_589 : Cond.selects "PadeWorkbench$Fraction" my_R_agreement my_R_agreement ∈ pw_gt := pw_gt_at 589 (by decide +kernel) rfl
theorem mq_590 : Cond.code my_R_agreement prog_4_method_5_code 6 (some .int) ∈ pw_gt := pw_gt_at 590 (by decide +kernel) rfl
theorem mq_591 : Cond.methodLink "PadeWorkbench$Fraction" 57 my_K_reduce ∈ pw_gt := pw_gt_at 591 (by decide +kernel) rfl
theorem mq_593 : Cond.instanceMethod my_W_blockSize ∈ pw_gt := pw_gt_at 593 (by decide +kernel) rfl
theorem mq_594 : Cond.selects "PadeWorkbench" my_W_blockSize my_W_blockSize ∈ pw_gt := pw_gt_at 594 (by decide +kernel) rfl
theorem mq_595 : Cond.code my_W_blockSize prog_1_method_18_code 4 (some .int) ∈ pw_gt := pw_gt_at 595 (by decide +kernel) rfl
theorem mq_596 : Cond.methodLink "PadeWorkbench" 174 my_R_block ∈ pw_gt := pw_gt_at 596 (by decide +kernel) rfl
theorem mq_597 : Cond.instanceMethod my_R_block ∈ pw_gt := pw_gt_at 597 (by decide +kernel) rfl
theorem mq_598 : Cond.selects "PadeWorkbench$Fraction" my_R_block my_R_block ∈ pw_gt := pw_gt_at 598 (by decide +kernel) rfl
theorem mq_599 : Cond.code my_R_block prog_4_method_6_code 2 (some .int) ∈ pw_gt := pw_gt_at 599 (by decide +kernel) rfl
theorem mq_601 : Cond.instanceMethod my_W_evaluate ∈ pw_gt := pw_gt_at 601 (by decide +kernel) rfl
theorem mq_602 : Cond.selects "PadeWorkbench" my_W_evaluate my_W_evaluate ∈ pw_gt := pw_gt_at 602 (by decide +kernel) rfl
theorem mq_603 : Cond.code my_W_evaluate prog_1_method_19_code 6 (some .int) ∈ pw_gt := pw_gt_at 603 (by decide +kernel) rfl
theorem mq_604 : Cond.methodLink "PadeWorkbench" 177 my_P_valueAt ∈ pw_gt := pw_gt_at 604 (by decide +kernel) rfl
theorem mq_605 : Cond.methodLink "PadeWorkbench" 181 my_K_over ∈ pw_gt := pw_gt_at 605 (by decide +kernel) rfl
theorem mq_606 : Cond.static my_K_over ∈ pw_gt := pw_gt_at 606 (by decide +kernel) rfl
theorem mq_607 : Cond.code my_K_over prog_3_method_6_code 3 (some .int) ∈ pw_gt := pw_gt_at 607 (by decide +kernel) rfl
theorem mq_608 : Cond.methodLink "PadeWorkbench$Field" 13 my_K_inverse ∈ pw_gt := pw_gt_at 608 (by decide +kernel) rfl
theorem mq_609 : Cond.methodLink "PadeWorkbench$Field" 16 my_K_times ∈ pw_gt := pw_gt_at 609 (by decide +kernel) rfl
theorem mq_611 : Cond.instanceMethod my_W_normalCount ∈ pw_gt := pw_gt_at 611 (by decide +kernel) rfl
theorem mq_612 : Cond.selects "PadeWorkbench" my_W_normalCount my_W_normalCount ∈ pw_gt := pw_gt_at 612 (by decide +kernel) rfl
theorem mq_613 : Cond.code my_W_normalCount prog_1_method_20_code 5 (some .int) ∈ pw_gt := pw_gt_at 613 (by decide +kernel) rfl
theorem mq_615 : Cond.instanceMethod my_W_determinant ∈ pw_gt := pw_gt_at 615 (by decide +kernel) rfl
theorem mq_616 : Cond.selects "PadeWorkbench" my_W_determinant my_W_determinant ∈ pw_gt := pw_gt_at 616 (by decide +kernel) rfl
theorem mq_617 : Cond.code my_W_determinant prog_1_method_21_code 4 (some .int) ∈ pw_gt := pw_gt_at 617 (by decide +kernel) rfl
theorem mq_618 : Cond.methodLink "PadeWorkbench" 187 my_D_valueOf ∈ pw_gt := pw_gt_at 618 (by decide +kernel) rfl
theorem mq_619 : Cond.instanceMethod my_D_valueOf ∈ pw_gt := pw_gt_at 619 (by decide +kernel) rfl
theorem mq_620 : Cond.selects "PadeWorkbench$Toeplitz" my_D_valueOf my_D_valueOf ∈ pw_gt := pw_gt_at 620 (by decide +kernel) rfl
theorem mq_621 : Cond.code my_D_valueOf prog_12_method_2_code 8 (some .int) ∈ pw_gt := pw_gt_at 621 (by decide +kernel) rfl
theorem mq_622 : Cond.methodLink "PadeWorkbench$Toeplitz" 16 my_D_fill ∈ pw_gt := pw_gt_at 622 (by decide +kernel) rfl
theorem mq_624 : Cond.instanceMethod my_D_fill ∈ pw_gt := pw_gt_at 624 (by decide +kernel) rfl
theorem mq_625 : Cond.code my_D_fill prog_12_method_3_code 7 none ∈ pw_gt := pw_gt_at 625 (by decide +kernel) rfl
theorem mq_627 : Cond.methodLink "PadeWorkbench$Toeplitz" 20 my_D_pivotRow ∈ pw_gt := pw_gt_at 627 (by decide +kernel) rfl
theorem mq_629 : Cond.instanceMethod my_D_pivotRow ∈ pw_gt := pw_gt_at 629 (by decide +kernel) rfl
theorem mq_630 : Cond.code my_D_pivotRow prog_12_method_4_code 4 (some .int) ∈ pw_gt := pw_gt_at 630 (by decide +kernel) rfl
theorem mq_631 : Cond.methodLink "PadeWorkbench$Toeplitz" 24 my_D_swapRows ∈ pw_gt := pw_gt_at 631 (by decide +kernel) rfl
theorem mq_633 : Cond.instanceMethod my_D_swapRows ∈ pw_gt := pw_gt_at 633 (by decide +kernel) rfl
theorem mq_634 : Cond.code my_D_swapRows prog_12_method_5_code 5 none ∈ pw_gt := pw_gt_at 634 (by decide +kernel) rfl
theorem mq_635 : Cond.methodLink "PadeWorkbench$Toeplitz" 28 my_K_negative ∈ pw_gt := pw_gt_at 635 (by decide +kernel) rfl
theorem mq_636 : Cond.methodLink "PadeWorkbench$Toeplitz" 33 my_K_times ∈ pw_gt := pw_gt_at 636 (by decide +kernel) rfl
theorem mq_637 : Cond.methodLink "PadeWorkbench$Toeplitz" 37 my_D_clearBelow ∈ pw_gt := pw_gt_at 637 (by decide +kernel) rfl
theorem mq_639 : Cond.instanceMethod my_D_clearBelow ∈ pw_gt := pw_gt_at 639 (by decide +kernel) rfl
theorem mq_640 : Cond.code my_D_clearBelow prog_12_method_6_code 8 none ∈ pw_gt := pw_gt_at 640 (by decide +kernel) rfl
theorem mq_641 : Cond.methodLink "PadeWorkbench$Toeplitz" 45 my_K_inverse ∈ pw_gt := pw_gt_at 641 (by decide +kernel) rfl
theorem mq_642 : Cond.methodLink "PadeWorkbench$Toeplitz" 48 my_K_reduce ∈ pw_gt := pw_gt_at 642 (by decide +kernel) rfl
theorem mq_644 : Cond.instanceMethod my_W_quotientDifference ∈ pw_gt := pw_gt_at 644 (by decide +kernel) rfl
theorem mq_645 : Cond.selects "PadeWorkbench" my_W_quotientDifference my_W_quotientDifference ∈ pw_gt := pw_gt_at 645 (by decide +kernel) rfl
theorem mq_646 : Cond.code my_W_quotientDifference prog_1_method_22_code 5 (some .int) ∈ pw_gt := pw_gt_at 646 (by decide +kernel) rfl
theorem mq_647 : Cond.methodLink "PadeWorkbench" 191 my_W_isSchemePlace ∈ pw_gt := pw_gt_at 647 (by decide +kernel) rfl
theorem mq_648 : Cond.static my_W_isSchemePlace ∈ pw_gt := pw_gt_at 648 (by decide +kernel) rfl
theorem mq_649 : Cond.code my_W_isSchemePlace prog_1_method_42_code 3 (some .boolean) ∈ pw_gt := pw_gt_at 649 (by decide +kernel) rfl
theorem mq_650 : Cond.methodLink "PadeWorkbench" 194 my_Q_number ∈ pw_gt := pw_gt_at 650 (by decide +kernel) rfl
theorem mq_651 : Cond.instanceMethod my_Q_number ∈ pw_gt := pw_gt_at 651 (by decide +kernel) rfl
theorem mq_652 : Cond.selects "PadeWorkbench$Scheme" my_Q_number my_Q_number ∈ pw_gt := pw_gt_at 652 (by decide +kernel) rfl
theorem mq_653 : Cond.code my_Q_number prog_9_method_2_code 7 (some .int) ∈ pw_gt := pw_gt_at 653 (by decide +kernel) rfl
theorem mq_654 : Cond.methodLink "PadeWorkbench$Scheme" 18 my_Q_firstColumns ∈ pw_gt := pw_gt_at 654 (by decide +kernel) rfl
theorem mq_656 : Cond.instanceMethod my_Q_firstColumns ∈ pw_gt := pw_gt_at 656 (by decide +kernel) rfl
theorem mq_657 : Cond.code my_Q_firstColumns prog_9_method_3_code 4 none ∈ pw_gt := pw_gt_at 657 (by decide +kernel) rfl
theorem mq_658 : Cond.methodLink "PadeWorkbench$Scheme" 29 my_A_fill ∈ pw_gt := pw_gt_at 658 (by decide +kernel) rfl
theorem mq_659 : Cond.methodLink "PadeWorkbench$Scheme" 34 my_Q_ratio ∈ pw_gt := pw_gt_at 659 (by decide +kernel) rfl
theorem mq_660 : Cond.static my_Q_ratio ∈ pw_gt := pw_gt_at 660 (by decide +kernel) rfl
theorem mq_661 : Cond.code my_Q_ratio prog_9_method_6_code 3 (some .int) ∈ pw_gt := pw_gt_at 661 (by decide +kernel) rfl
theorem mq_662 : Cond.methodLink "PadeWorkbench$Scheme" 47 my_K_over ∈ pw_gt := pw_gt_at 662 (by decide +kernel) rfl
theorem mq_663 : Cond.methodLink "PadeWorkbench$Scheme" 22 my_Q_nextE ∈ pw_gt := pw_gt_at 663 (by decide +kernel) rfl
theorem mq_665 : Cond.instanceMethod my_Q_nextE ∈ pw_gt := pw_gt_at 665 (by decide +kernel) rfl
theorem mq_666 : Cond.code my_Q_nextE prog_9_method_4_code 4 none ∈ pw_gt := pw_gt_at 666 (by decide +kernel) rfl
theorem mq_667 : Cond.methodLink "PadeWorkbench$Scheme" 38 my_K_reduce ∈ pw_gt := pw_gt_at 667 (by decide +kernel) rfl
theorem mq_668 : Cond.methodLink "PadeWorkbench$Scheme" 26 my_Q_nextQ ∈ pw_gt := pw_gt_at 668 (by decide +kernel) rfl
theorem mq_670 : Cond.instanceMethod my_Q_nextQ ∈ pw_gt := pw_gt_at 670 (by decide +kernel) rfl
theorem mq_671 : Cond.code my_Q_nextQ prog_9_method_5_code 4 none ∈ pw_gt := pw_gt_at 671 (by decide +kernel) rfl
theorem mq_672 : Cond.methodLink "PadeWorkbench$Scheme" 44 my_K_times ∈ pw_gt := pw_gt_at 672 (by decide +kernel) rfl
theorem mq_674 : Cond.instanceMethod my_W_quotientCount ∈ pw_gt := pw_gt_at 674 (by decide +kernel) rfl
theorem mq_675 : Cond.selects "PadeWorkbench" my_W_quotientCount my_W_quotientCount ∈ pw_gt := pw_gt_at 675 (by decide +kernel) rfl
theorem mq_676 : Cond.code my_W_quotientCount prog_1_method_23_code 4 (some .int) ∈ pw_gt := pw_gt_at 676 (by decide +kernel) rfl
theorem mq_677 : Cond.methodLink "PadeWorkbench" 205 my_E_divide ∈ pw_gt := pw_gt_at 677 (by decide +kernel) rfl
theorem mq_679 : Cond.instanceMethod my_W_quotient ∈ pw_gt := pw_gt_at 679 (by decide +kernel) rfl
theorem mq_680 : Cond.selects "PadeWorkbench" my_W_quotient my_W_quotient ∈ pw_gt := pw_gt_at 680 (by decide +kernel) rfl
theorem mq_681 : Cond.code my_W_quotient prog_1_method_24_code 6 (some .int) ∈ pw_gt := pw_gt_at 681 (by decide +kernel) rfl
theorem mq_683 : Cond.instanceMethod my_W_complexity ∈ pw_gt := pw_gt_at 683 (by decide +kernel) rfl
theorem mq_684 : Cond.selects "PadeWorkbench" my_W_complexity my_W_complexity ∈ pw_gt := pw_gt_at 684 (by decide +kernel) rfl
theorem mq_685 : Cond.code my_W_complexity prog_1_method_25_code 3 (some .int) ∈ pw_gt := pw_gt_at 685 (by decide +kernel) rfl
theorem mq_686 : Cond.methodLink "PadeWorkbench" 211 my_B_fit ∈ pw_gt := pw_gt_at 686 (by decide +kernel) rfl
theorem mq_687 : Cond.instanceMethod my_B_fit ∈ pw_gt := pw_gt_at 687 (by decide +kernel) rfl
theorem mq_688 : Cond.selects "PadeWorkbench$Register" my_B_fit my_B_fit ∈ pw_gt := pw_gt_at 688 (by decide +kernel) rfl
theorem mq_689 : Cond.code my_B_fit prog_8_method_2_code 8 none ∈ pw_gt := pw_gt_at 689 (by decide +kernel) rfl
theorem mq_690 : Cond.methodLink "PadeWorkbench$Register" 21 my_A_fill ∈ pw_gt := pw_gt_at 690 (by decide +kernel) rfl
theorem mq_691 : Cond.methodLink "PadeWorkbench$Register" 31 my_B_gapAt ∈ pw_gt := pw_gt_at 691 (by decide +kernel) rfl
theorem mq_693 : Cond.instanceMethod my_B_gapAt ∈ pw_gt := pw_gt_at 693 (by decide +kernel) rfl
theorem mq_694 : Cond.code my_B_gapAt prog_8_method_3_code 6 (some .int) ∈ pw_gt := pw_gt_at 694 (by decide +kernel) rfl
theorem mq_695 : Cond.methodLink "PadeWorkbench$Register" 48 my_K_reduce ∈ pw_gt := pw_gt_at 695 (by decide +kernel) rfl
theorem mq_696 : Cond.methodLink "PadeWorkbench$Register" 35 my_K_over ∈ pw_gt := pw_gt_at 696 (by decide +kernel) rfl
theorem mq_697 : Cond.methodLink "PadeWorkbench$Register" 41 my_B_correct ∈ pw_gt := pw_gt_at 697 (by decide +kernel) rfl
theorem mq_699 : Cond.instanceMethod my_B_correct ∈ pw_gt := pw_gt_at 699 (by decide +kernel) rfl
theorem mq_700 : Cond.code my_B_correct prog_8_method_4_code 6 none ∈ pw_gt := pw_gt_at 700 (by decide +kernel) rfl
theorem mq_701 : Cond.methodLink "PadeWorkbench$Register" 52 arraycopyName ∈ pw_gt := pw_gt_at 701 (by decide +kernel) rfl
theorem mq_702 : Cond.methodLink "PadeWorkbench$Register" 45 my_B_keepOlder ∈ pw_gt := pw_gt_at 702 (by decide +kernel) rfl
theorem mq_704 : Cond.instanceMethod my_B_keepOlder ∈ pw_gt := pw_gt_at 704 (by decide +kernel) rfl
theorem mq_705 : Cond.code my_B_keepOlder prog_8_method_5_code 2 none ∈ pw_gt := pw_gt_at 705 (by decide +kernel) rfl
theorem mq_707 : Cond.instanceMethod my_W_recurrence ∈ pw_gt := pw_gt_at 707 (by decide +kernel) rfl
theorem mq_708 : Cond.selects "PadeWorkbench" my_W_recurrence my_W_recurrence ∈ pw_gt := pw_gt_at 708 (by decide +kernel) rfl
theorem mq_709 : Cond.code my_W_recurrence prog_1_method_26_code 4 (some .int) ∈ pw_gt := pw_gt_at 709 (by decide +kernel) rfl
theorem mq_710 : Cond.methodLink "PadeWorkbench" 220 my_K_negative ∈ pw_gt := pw_gt_at 710 (by decide +kernel) rfl
theorem mq_712 : Cond.instanceMethod my_W_addPoint ∈ pw_gt := pw_gt_at 712 (by decide +kernel) rfl
theorem mq_713 : Cond.selects "PadeWorkbench" my_W_addPoint my_W_addPoint ∈ pw_gt := pw_gt_at 713 (by decide +kernel) rfl
theorem mq_714 : Cond.code my_W_addPoint prog_1_method_27_code 3 (some .int) ∈ pw_gt := pw_gt_at 714 (by decide +kernel) rfl
theorem mq_715 : Cond.methodLink "PadeWorkbench" 223 my_Z_hasPointAt ∈ pw_gt := pw_gt_at 715 (by decide +kernel) rfl
theorem mq_716 : Cond.instanceMethod my_Z_hasPointAt ∈ pw_gt := pw_gt_at 716 (by decide +kernel) rfl
theorem mq_717 : Cond.selects "PadeWorkbench$State" my_Z_hasPointAt my_Z_hasPointAt ∈ pw_gt := pw_gt_at 717 (by decide +kernel) rfl
theorem mq_718 : Cond.code my_Z_hasPointAt prog_11_method_4_code 3 (some .boolean) ∈ pw_gt := pw_gt_at 718 (by decide +kernel) rfl
theorem mq_719 : Cond.methodLink "PadeWorkbench" 229 my_Z_putPoint ∈ pw_gt := pw_gt_at 719 (by decide +kernel) rfl
theorem mq_720 : Cond.instanceMethod my_Z_putPoint ∈ pw_gt := pw_gt_at 720 (by decide +kernel) rfl
theorem mq_721 : Cond.selects "PadeWorkbench$State" my_Z_putPoint my_Z_putPoint ∈ pw_gt := pw_gt_at 721 (by decide +kernel) rfl
theorem mq_722 : Cond.code my_Z_putPoint prog_11_method_5_code 3 none ∈ pw_gt := pw_gt_at 722 (by decide +kernel) rfl
theorem mq_724 : Cond.instanceMethod my_W_clearPoints ∈ pw_gt := pw_gt_at 724 (by decide +kernel) rfl
theorem mq_725 : Cond.selects "PadeWorkbench" my_W_clearPoints my_W_clearPoints ∈ pw_gt := pw_gt_at 725 (by decide +kernel) rfl
theorem mq_726 : Cond.code my_W_clearPoints prog_1_method_28_code 2 (some .int) ∈ pw_gt := pw_gt_at 726 (by decide +kernel) rfl
theorem mq_728 : Cond.instanceMethod my_W_interpolant ∈ pw_gt := pw_gt_at 728 (by decide +kernel) rfl
theorem mq_729 : Cond.selects "PadeWorkbench" my_W_interpolant my_W_interpolant ∈ pw_gt := pw_gt_at 729 (by decide +kernel) rfl
theorem mq_730 : Cond.code my_W_interpolant prog_1_method_29_code 4 (some .int) ∈ pw_gt := pw_gt_at 730 (by decide +kernel) rfl
theorem mq_731 : Cond.methodLink "PadeWorkbench" 233 my_W_isInterpolant ∈ pw_gt := pw_gt_at 731 (by decide +kernel) rfl
theorem mq_733 : Cond.instanceMethod my_W_isInterpolant ∈ pw_gt := pw_gt_at 733 (by decide +kernel) rfl
theorem mq_734 : Cond.code my_W_isInterpolant prog_1_method_43_code 2 (some .boolean) ∈ pw_gt := pw_gt_at 734 (by decide +kernel) rfl
theorem mq_735 : Cond.methodLink "PadeWorkbench" 236 my_W_interpolate ∈ pw_gt := pw_gt_at 735 (by decide +kernel) rfl
theorem mq_737 : Cond.instanceMethod my_W_interpolate ∈ pw_gt := pw_gt_at 737 (by decide +kernel) rfl
theorem mq_738 : Cond.code my_W_interpolate prog_1_method_48_code 3 none ∈ pw_gt := pw_gt_at 738 (by decide +kernel) rfl
theorem mq_739 : Cond.methodLink "PadeWorkbench" 305 my_E_startWithPoints ∈ pw_gt := pw_gt_at 739 (by decide +kernel) rfl
theorem mq_740 : Cond.instanceMethod my_E_startWithPoints ∈ pw_gt := pw_gt_at 740 (by decide +kernel) rfl
theorem mq_741 : Cond.selects "PadeWorkbench$Euclid" my_E_startWithPoints my_E_startWithPoints ∈ pw_gt := pw_gt_at 741 (by decide +kernel) rfl
theorem mq_742 : Cond.code my_E_startWithPoints prog_2_method_3_code 6 none ∈ pw_gt := pw_gt_at 742 (by decide +kernel) rfl
theorem mq_743 : Cond.methodLink "PadeWorkbench$Euclid" 63 my_P_valueAt ∈ pw_gt := pw_gt_at 743 (by decide +kernel) rfl
theorem mq_744 : Cond.methodLink "PadeWorkbench$Euclid" 67 my_K_reduce ∈ pw_gt := pw_gt_at 744 (by decide +kernel) rfl
theorem mq_745 : Cond.methodLink "PadeWorkbench$Euclid" 72 my_K_over ∈ pw_gt := pw_gt_at 745 (by decide +kernel) rfl
theorem mq_746 : Cond.methodLink "PadeWorkbench$Euclid" 83 my_P_multiplyByRoot ∈ pw_gt := pw_gt_at 746 (by decide +kernel) rfl
theorem mq_747 : Cond.instanceMethod my_P_multiplyByRoot ∈ pw_gt := pw_gt_at 747 (by decide +kernel) rfl
theorem mq_748 : Cond.selects "PadeWorkbench$Polynomial" my_P_multiplyByRoot my_P_multiplyByRoot ∈ pw_gt := pw_gt_at 748 (by decide +kernel) rfl
theorem mq_749 : Cond.code my_P_multiplyByRoot prog_7_method_10_code 6 none ∈ pw_gt := pw_gt_at 749 (by decide +kernel) rfl
theorem mq_750 : Cond.methodLink "PadeWorkbench$Polynomial" 47 my_K_negative ∈ pw_gt := pw_gt_at 750 (by decide +kernel) rfl
theorem mq_752 : Cond.instanceMethod my_W_unattainable ∈ pw_gt := pw_gt_at 752 (by decide +kernel) rfl
theorem mq_753 : Cond.selects "PadeWorkbench" my_W_unattainable my_W_unattainable ∈ pw_gt := pw_gt_at 753 (by decide +kernel) rfl
theorem mq_754 : Cond.code my_W_unattainable prog_1_method_30_code 2 (some .int) ∈ pw_gt := pw_gt_at 754 (by decide +kernel) rfl
theorem mq_755 : Cond.methodLink "PadeWorkbench" 239 my_W_missedPoints ∈ pw_gt := pw_gt_at 755 (by decide +kernel) rfl
theorem mq_757 : Cond.instanceMethod my_W_missedPoints ∈ pw_gt := pw_gt_at 757 (by decide +kernel) rfl
theorem mq_758 : Cond.code my_W_missedPoints prog_1_method_49_code 3 (some .int) ∈ pw_gt := pw_gt_at 758 (by decide +kernel) rfl
theorem mq_759 : Cond.methodLink "PadeWorkbench" 308 my_R_passes ∈ pw_gt := pw_gt_at 759 (by decide +kernel) rfl
theorem mq_760 : Cond.instanceMethod my_R_passes ∈ pw_gt := pw_gt_at 760 (by decide +kernel) rfl
theorem mq_761 : Cond.selects "PadeWorkbench$Fraction" my_R_passes my_R_passes ∈ pw_gt := pw_gt_at 761 (by decide +kernel) rfl
theorem mq_762 : Cond.code my_R_passes prog_4_method_7_code 5 (some .boolean) ∈ pw_gt := pw_gt_at 762 (by decide +kernel) rfl
theorem mq_763 : Cond.methodLink "PadeWorkbench$Fraction" 60 my_K_times ∈ pw_gt := pw_gt_at 763 (by decide +kernel) rfl
theorem mq_765 : Cond.instanceMethod my_W_undo ∈ pw_gt := pw_gt_at 765 (by decide +kernel) rfl
theorem mq_766 : Cond.selects "PadeWorkbench" my_W_undo my_W_undo ∈ pw_gt := pw_gt_at 766 (by decide +kernel) rfl
theorem mq_767 : Cond.code my_W_undo prog_1_method_31_code 1 (some .int) ∈ pw_gt := pw_gt_at 767 (by decide +kernel) rfl
theorem mq_768 : Cond.methodLink "PadeWorkbench" 246 my_H_giveBack ∈ pw_gt := pw_gt_at 768 (by decide +kernel) rfl
theorem mq_769 : Cond.instanceMethod my_H_giveBack ∈ pw_gt := pw_gt_at 769 (by decide +kernel) rfl
theorem mq_770 : Cond.selects "PadeWorkbench$History" my_H_giveBack my_H_giveBack ∈ pw_gt := pw_gt_at 770 (by decide +kernel) rfl
theorem mq_771 : Cond.code my_H_giveBack prog_6_method_3_code 2 none ∈ pw_gt := pw_gt_at 771 (by decide +kernel) rfl
theorem mq_773 : Cond.instanceMethod my_W_errorCount ∈ pw_gt := pw_gt_at 773 (by decide +kernel) rfl
theorem mq_774 : Cond.selects "PadeWorkbench" my_W_errorCount my_W_errorCount ∈ pw_gt := pw_gt_at 774 (by decide +kernel) rfl
theorem mq_775 : Cond.code my_W_errorCount prog_1_method_32_code 2 (some .int) ∈ pw_gt := pw_gt_at 775 (by decide +kernel) rfl
theorem mq_777 : Cond.instanceMethod my_W_digest ∈ pw_gt := pw_gt_at 777 (by decide +kernel) rfl
theorem mq_778 : Cond.selects "PadeWorkbench" my_W_digest my_W_digest ∈ pw_gt := pw_gt_at 778 (by decide +kernel) rfl
theorem mq_779 : Cond.code my_W_digest prog_1_method_33_code 4 (some .long) ∈ pw_gt := pw_gt_at 779 (by decide +kernel) rfl
theorem mq_780 : Cond.constantLong "PadeWorkbench" 249 12475 ∈ pw_gt := pw_gt_at 780 (by decide +kernel) rfl
theorem mq_781 : Cond.methodLink "PadeWorkbench" 251 my_W_mix ∈ pw_gt := pw_gt_at 781 (by decide +kernel) rfl
theorem mq_782 : Cond.static my_W_mix ∈ pw_gt := pw_gt_at 782 (by decide +kernel) rfl
theorem mq_783 : Cond.code my_W_mix prog_1_method_34_code 3 (some .long) ∈ pw_gt := pw_gt_at 783 (by decide +kernel) rfl
theorem mq_784 : Cond.constantLong "PadeWorkbench" 262 31 ∈ pw_gt := pw_gt_at 784 (by decide +kernel) rfl
theorem mq_785 : Cond.methodLink "PadeWorkbench" 255 my_W_mixSeries ∈ pw_gt := pw_gt_at 785 (by decide +kernel) rfl
theorem mq_787 : Cond.instanceMethod my_W_mixSeries ∈ pw_gt := pw_gt_at 787 (by decide +kernel) rfl
theorem mq_788 : Cond.code my_W_mixSeries prog_1_method_35_code 10 (some .long) ∈ pw_gt := pw_gt_at 788 (by decide +kernel) rfl
theorem mq_789 : Cond.methodLink "PadeWorkbench" 258 my_W_mixPoints ∈ pw_gt := pw_gt_at 789 (by decide +kernel) rfl
theorem mq_791 : Cond.instanceMethod my_W_mixPoints ∈ pw_gt := pw_gt_at 791 (by decide +kernel) rfl
theorem mq_792 : Cond.code my_W_mixPoints prog_1_method_36_code 6 (some .long) ∈ pw_gt := pw_gt_at 792 (by decide +kernel) rfl
theorem mq_797 : Cond.code my_M_init prog_14_method_1_code 1 none ∈ pw_gt := pw_gt_at 797 (by decide +kernel) rfl
theorem mq_798 : Cond.methodLink "PadeWorkbenchModel" 1 objectInit ∈ pw_gt := pw_gt_at 798 (by decide +kernel) rfl
theorem mq_799 : Cond.fieldLink "PadeWorkbenchModel" 7 "PadeWorkbenchModel" "now" "[I" ∈ pw_gt := pw_gt_at 799 (by decide +kernel) rfl
theorem mq_800 : Cond.fieldLink "PadeWorkbenchModel" 13 "PadeWorkbenchModel" "history" "[I" ∈ pw_gt := pw_gt_at 800 (by decide +kernel) rfl
theorem mq_801 : Cond.fieldLink "PadeWorkbenchModel" 69 "PadeWorkbenchModel" "saved" "I" ∈ pw_gt := pw_gt_at 801 (by decide +kernel) rfl
theorem mq_802 : Cond.fieldLink "PadeWorkbenchModel" 16 "PadeWorkbenchModel" "errors" "[I" ∈ pw_gt := pw_gt_at 802 (by decide +kernel) rfl
theorem mq_803 : Cond.fieldLink "PadeWorkbenchModel" 19 "PadeWorkbenchModel" "text" "[I" ∈ pw_gt := pw_gt_at 803 (by decide +kernel) rfl
theorem mq_804 : Cond.fieldLink "PadeWorkbenchModel" 114 "PadeWorkbenchModel" "length" "I" ∈ pw_gt := pw_gt_at 804 (by decide +kernel) rfl
theorem mq_805 : Cond.fieldLink "PadeWorkbenchModel" 22 "PadeWorkbenchModel" "made" "[I" ∈ pw_gt := pw_gt_at 805 (by decide +kernel) rfl
theorem mq_806 : Cond.fieldLink "PadeWorkbenchModel" 25 "PadeWorkbenchModel" "one" "[I" ∈ pw_gt := pw_gt_at 806 (by decide +kernel) rfl
theorem mq_807 : Cond.fieldLink "PadeWorkbenchModel" 28 "PadeWorkbenchModel" "two" "[I" ∈ pw_gt := pw_gt_at 807 (by decide +kernel) rfl
theorem mq_808 : Cond.fieldLink "PadeWorkbenchModel" 117 "PadeWorkbenchModel" "next" "I" ∈ pw_gt := pw_gt_at 808 (by decide +kernel) rfl
theorem mq_809 : Cond.fieldLink "PadeWorkbenchModel" 31 "PadeWorkbenchModel" "matrix" "[I" ∈ pw_gt := pw_gt_at 809 (by decide +kernel) rfl
theorem mq_810 : Cond.fieldLink "PadeWorkbenchModel" 34 "PadeWorkbenchModel" "pivot" "[I" ∈ pw_gt := pw_gt_at 810 (by decide +kernel) rfl
theorem mq_811 : Cond.fieldLink "PadeWorkbenchModel" 37 "PadeWorkbenchModel" "vector" "[I" ∈ pw_gt := pw_gt_at 811 (by decide +kernel) rfl
theorem mq_812 : Cond.fieldLink "PadeWorkbenchModel" 40 "PadeWorkbenchModel" "up" "[I" ∈ pw_gt := pw_gt_at 812 (by decide +kernel) rfl
theorem mq_813 : Cond.fieldLink "PadeWorkbenchModel" 43 "PadeWorkbenchModel" "low" "[I" ∈ pw_gt := pw_gt_at 813 (by decide +kernel) rfl
theorem mq_814 : Cond.fieldLink "PadeWorkbenchModel" 46 "PadeWorkbenchModel" "first" "[I" ∈ pw_gt := pw_gt_at 814 (by decide +kernel) rfl
theorem mq_815 : Cond.fieldLink "PadeWorkbenchModel" 49 "PadeWorkbenchModel" "second" "[I" ∈ pw_gt := pw_gt_at 815 (by decide +kernel) rfl
theorem mq_816 : Cond.fieldLink "PadeWorkbenchModel" 52 "PadeWorkbenchModel" "third" "[I" ∈ pw_gt := pw_gt_at 816 (by decide +kernel) rfl
theorem mq_817 : Cond.fieldLink "PadeWorkbenchModel" 55 "PadeWorkbenchModel" "quotients" "[I" ∈ pw_gt := pw_gt_at 817 (by decide +kernel) rfl
theorem mq_818 : Cond.fieldLink "PadeWorkbenchModel" 58 "PadeWorkbenchModel" "differences" "[I" ∈ pw_gt := pw_gt_at 818 (by decide +kernel) rfl
theorem mq_819 : Cond.laysFinal "PadeWorkbenchModel" "PadeWorkbenchModel" "now" "[I" ∈ pw_gt := pw_gt_at 819 (by decide +kernel) rfl
theorem mq_821 : Cond.laysFinal "PadeWorkbenchModel" "PadeWorkbenchModel" "history" "[I" ∈ pw_gt := pw_gt_at 821 (by decide +kernel) rfl
theorem mq_823 : Cond.lays "PadeWorkbenchModel" "PadeWorkbenchModel" "saved" "I" ∈ pw_gt := pw_gt_at 823 (by decide +kernel) rfl
theorem mq_825 : Cond.laysFinal "PadeWorkbenchModel" "PadeWorkbenchModel" "errors" "[I" ∈ pw_gt := pw_gt_at 825 (by decide +kernel) rfl
theorem mq_827 : Cond.laysFinal "PadeWorkbenchModel" "PadeWorkbenchModel" "text" "[I" ∈ pw_gt := pw_gt_at 827 (by decide +kernel) rfl
theorem mq_829 : Cond.lays "PadeWorkbenchModel" "PadeWorkbenchModel" "length" "I" ∈ pw_gt := pw_gt_at 829 (by decide +kernel) rfl
theorem mq_831 : Cond.laysFinal "PadeWorkbenchModel" "PadeWorkbenchModel" "made" "[I" ∈ pw_gt := pw_gt_at 831 (by decide +kernel) rfl
theorem mq_833 : Cond.laysFinal "PadeWorkbenchModel" "PadeWorkbenchModel" "one" "[I" ∈ pw_gt := pw_gt_at 833 (by decide +kernel) rfl
theorem mq_835 : Cond.laysFinal "PadeWorkbenchModel" "PadeWorkbenchModel" "two" "[I" ∈ pw_gt := pw_gt_at 835 (by decide +kernel) rfl
theorem mq_837 : Cond.lays "PadeWorkbenchModel" "PadeWorkbenchModel" "next" "I" ∈ pw_gt := pw_gt_at 837 (by decide +kernel) rfl
theorem mq_839 : Cond.laysFinal "PadeWorkbenchModel" "PadeWorkbenchModel" "matrix" "[I" ∈ pw_gt := pw_gt_at 839 (by decide +kernel) rfl
theorem mq_841 : Cond.laysFinal "PadeWorkbenchModel" "PadeWorkbenchModel" "pivot" "[I" ∈ pw_gt := pw_gt_at 841 (by decide +kernel) rfl
theorem mq_843 : Cond.laysFinal "PadeWorkbenchModel" "PadeWorkbenchModel" "vector" "[I" ∈ pw_gt := pw_gt_at 843 (by decide +kernel) rfl
theorem mq_845 : Cond.laysFinal "PadeWorkbenchModel" "PadeWorkbenchModel" "up" "[I" ∈ pw_gt := pw_gt_at 845 (by decide +kernel) rfl
theorem mq_847 : Cond.laysFinal "PadeWorkbenchModel" "PadeWorkbenchModel" "low" "[I" ∈ pw_gt := pw_gt_at 847 (by decide +kernel) rfl
theorem mq_849 : Cond.laysFinal "PadeWorkbenchModel" "PadeWorkbenchModel" "first" "[I" ∈ pw_gt := pw_gt_at 849 (by decide +kernel) rfl
theorem mq_851 : Cond.laysFinal "PadeWorkbenchModel" "PadeWorkbenchModel" "second" "[I" ∈ pw_gt := pw_gt_at 851 (by decide +kernel) rfl
theorem mq_853 : Cond.laysFinal "PadeWorkbenchModel" "PadeWorkbenchModel" "third" "[I" ∈ pw_gt := pw_gt_at 853 (by decide +kernel) rfl
theorem mq_855 : Cond.laysFinal "PadeWorkbenchModel" "PadeWorkbenchModel" "quotients" "[I" ∈ pw_gt := pw_gt_at 855 (by decide +kernel) rfl
theorem mq_857 : Cond.laysFinal "PadeWorkbenchModel" "PadeWorkbenchModel" "differences" "[I" ∈ pw_gt := pw_gt_at 857 (by decide +kernel) rfl
theorem mq_861 : Cond.instanceMethod my_M_setPrime ∈ pw_gt := pw_gt_at 861 (by decide +kernel) rfl
theorem mq_862 : Cond.selects "PadeWorkbenchModel" my_M_setPrime my_M_setPrime ∈ pw_gt := pw_gt_at 862 (by decide +kernel) rfl
theorem mq_863 : Cond.code my_M_setPrime prog_14_method_11_code 4 (some .int) ∈ pw_gt := pw_gt_at 863 (by decide +kernel) rfl
theorem mq_864 : Cond.methodLink "PadeWorkbenchModel" 73 my_M_isPrime ∈ pw_gt := pw_gt_at 864 (by decide +kernel) rfl
theorem mq_865 : Cond.static my_M_isPrime ∈ pw_gt := pw_gt_at 865 (by decide +kernel) rfl
theorem mq_866 : Cond.code my_M_isPrime prog_14_method_7_code 3 (some .boolean) ∈ pw_gt := pw_gt_at 866 (by decide +kernel) rfl
theorem mq_867 : Cond.methodLink "PadeWorkbenchModel" 65 my_M_in ∈ pw_gt := pw_gt_at 867 (by decide +kernel) rfl
theorem mq_868 : Cond.static my_M_in ∈ pw_gt := pw_gt_at 868 (by decide +kernel) rfl
theorem mq_869 : Cond.code my_M_in prog_14_method_2_code 3 (some .boolean) ∈ pw_gt := pw_gt_at 869 (by decide +kernel) rfl
theorem mq_870 : Cond.methodLink "PadeWorkbenchModel" 77 my_M_fail ∈ pw_gt := pw_gt_at 870 (by decide +kernel) rfl
theorem mq_872 : Cond.instanceMethod my_M_fail ∈ pw_gt := pw_gt_at 872 (by decide +kernel) rfl
theorem mq_873 : Cond.code my_M_fail prog_14_method_3_code 2 (some .int) ∈ pw_gt := pw_gt_at 873 (by decide +kernel) rfl
theorem mq_874 : Cond.methodLink "PadeWorkbenchModel" 81 my_M_save ∈ pw_gt := pw_gt_at 874 (by decide +kernel) rfl
theorem mq_876 : Cond.instanceMethod my_M_save ∈ pw_gt := pw_gt_at 876 (by decide +kernel) rfl
theorem mq_877 : Cond.code my_M_save prog_14_method_10_code 2 none ∈ pw_gt := pw_gt_at 877 (by decide +kernel) rfl
theorem mq_878 : Cond.methodLink "PadeWorkbenchModel" 61 my_M_prime ∈ pw_gt := pw_gt_at 878 (by decide +kernel) rfl
theorem mq_880 : Cond.instanceMethod my_M_prime ∈ pw_gt := pw_gt_at 880 (by decide +kernel) rfl
theorem mq_881 : Cond.code my_M_prime prog_14_method_4_code 1 (some .int) ∈ pw_gt := pw_gt_at 881 (by decide +kernel) rfl
theorem mq_883 : Cond.instanceMethod my_M_set ∈ pw_gt := pw_gt_at 883 (by decide +kernel) rfl
theorem mq_884 : Cond.selects "PadeWorkbenchModel" my_M_set my_M_set ∈ pw_gt := pw_gt_at 884 (by decide +kernel) rfl
theorem mq_885 : Cond.code my_M_set prog_14_method_12_code 5 (some .int) ∈ pw_gt := pw_gt_at 885 (by decide +kernel) rfl
theorem mq_886 : Cond.methodLink "PadeWorkbenchModel" 84 my_M_isSlot ∈ pw_gt := pw_gt_at 886 (by decide +kernel) rfl
theorem mq_887 : Cond.static my_M_isSlot ∈ pw_gt := pw_gt_at 887 (by decide +kernel) rfl
theorem mq_888 : Cond.code my_M_isSlot prog_14_method_8_code 1 (some .boolean) ∈ pw_gt := pw_gt_at 888 (by decide +kernel) rfl
theorem mq_889 : Cond.methodLink "PadeWorkbenchModel" 87 my_M_term ∈ pw_gt := pw_gt_at 889 (by decide +kernel) rfl
theorem mq_891 : Cond.instanceMethod my_M_term ∈ pw_gt := pw_gt_at 891 (by decide +kernel) rfl
theorem mq_892 : Cond.code my_M_term prog_14_method_9_code 3 (some .int) ∈ pw_gt := pw_gt_at 892 (by decide +kernel) rfl
theorem mq_894 : Cond.instanceMethod my_M_coefficient ∈ pw_gt := pw_gt_at 894 (by decide +kernel) rfl
theorem mq_895 : Cond.selects "PadeWorkbenchModel" my_M_coefficient my_M_coefficient ∈ pw_gt := pw_gt_at 895 (by decide +kernel) rfl
theorem mq_896 : Cond.code my_M_coefficient prog_14_method_13_code 3 (some .int) ∈ pw_gt := pw_gt_at 896 (by decide +kernel) rfl
theorem mq_898 : Cond.instanceMethod my_M_add ∈ pw_gt := pw_gt_at 898 (by decide +kernel) rfl
theorem mq_899 : Cond.selects "PadeWorkbenchModel" my_M_add my_M_add ∈ pw_gt := pw_gt_at 899 (by decide +kernel) rfl
theorem mq_900 : Cond.code my_M_add prog_14_method_19_code 5 (some .int) ∈ pw_gt := pw_gt_at 900 (by decide +kernel) rfl
theorem mq_901 : Cond.methodLink "PadeWorkbenchModel" 91 my_M_mod ∈ pw_gt := pw_gt_at 901 (by decide +kernel) rfl
theorem mq_903 : Cond.instanceMethod my_M_mod ∈ pw_gt := pw_gt_at 903 (by decide +kernel) rfl
theorem mq_904 : Cond.code my_M_mod prog_14_method_5_code 3 (some .int) ∈ pw_gt := pw_gt_at 904 (by decide +kernel) rfl
theorem mq_905 : Cond.methodLink "PadeWorkbenchModel" 97 my_M_store ∈ pw_gt := pw_gt_at 905 (by decide +kernel) rfl
theorem mq_907 : Cond.instanceMethod my_M_store ∈ pw_gt := pw_gt_at 907 (by decide +kernel) rfl
theorem mq_908 : Cond.code my_M_store prog_14_method_16_code 4 (some .int) ∈ pw_gt := pw_gt_at 908 (by decide +kernel) rfl
theorem mq_910 : Cond.instanceMethod my_M_multiply ∈ pw_gt := pw_gt_at 910 (by decide +kernel) rfl
theorem mq_911 : Cond.selects "PadeWorkbenchModel" my_M_multiply my_M_multiply ∈ pw_gt := pw_gt_at 911 (by decide +kernel) rfl
theorem mq_912 : Cond.code my_M_multiply prog_14_method_20_code 4 (some .int) ∈ pw_gt := pw_gt_at 912 (by decide +kernel) rfl
theorem mq_913 : Cond.methodLink "PadeWorkbenchModel" 100 my_M_take ∈ pw_gt := pw_gt_at 913 (by decide +kernel) rfl
theorem mq_915 : Cond.instanceMethod my_M_take ∈ pw_gt := pw_gt_at 915 (by decide +kernel) rfl
theorem mq_916 : Cond.code my_M_take prog_14_method_14_code 4 none ∈ pw_gt := pw_gt_at 916 (by decide +kernel) rfl
theorem mq_917 : Cond.methodLink "PadeWorkbenchModel" 104 my_M_makeProduct ∈ pw_gt := pw_gt_at 917 (by decide +kernel) rfl
theorem mq_919 : Cond.instanceMethod my_M_makeProduct ∈ pw_gt := pw_gt_at 919 (by decide +kernel) rfl
theorem mq_920 : Cond.code my_M_makeProduct prog_14_method_17_code 4 none ∈ pw_gt := pw_gt_at 920 (by decide +kernel) rfl
theorem mq_922 : Cond.instanceMethod my_M_invert ∈ pw_gt := pw_gt_at 922 (by decide +kernel) rfl
theorem mq_923 : Cond.selects "PadeWorkbenchModel" my_M_invert my_M_invert ∈ pw_gt := pw_gt_at 923 (by decide +kernel) rfl
theorem mq_924 : Cond.code my_M_invert prog_14_method_21_code 3 (some .int) ∈ pw_gt := pw_gt_at 924 (by decide +kernel) rfl
theorem mq_925 : Cond.methodLink "PadeWorkbenchModel" 107 my_M_clear ∈ pw_gt := pw_gt_at 925 (by decide +kernel) rfl
theorem mq_926 : Cond.static my_M_clear ∈ pw_gt := pw_gt_at 926 (by decide +kernel) rfl
theorem mq_927 : Cond.code my_M_clear prog_14_method_15_code 2 none ∈ pw_gt := pw_gt_at 927 (by decide +kernel) rfl
theorem mq_928 : Cond.methodLink "PadeWorkbenchModel" 111 my_M_makeQuotient ∈ pw_gt := pw_gt_at 928 (by decide +kernel) rfl
theorem mq_930 : Cond.instanceMethod my_M_makeQuotient ∈ pw_gt := pw_gt_at 930 (by decide +kernel) rfl
theorem mq_931 : Cond.code my_M_makeQuotient prog_14_method_18_code 5 none ∈ pw_gt := pw_gt_at 931 (by decide +kernel) rfl
theorem mq_932 : Cond.methodLink "PadeWorkbenchModel" 94 my_M_inverse ∈ pw_gt := pw_gt_at 932 (by decide +kernel) rfl
theorem mq_934 : Cond.instanceMethod my_M_inverse ∈ pw_gt := pw_gt_at 934 (by decide +kernel) rfl
theorem mq_935 : Cond.code my_M_inverse prog_14_method_6_code 4 (some .int) ∈ pw_gt := pw_gt_at 935 (by decide +kernel) rfl
theorem mq_937 : Cond.instanceMethod my_M_substitute ∈ pw_gt := pw_gt_at 937 (by decide +kernel) rfl
theorem mq_938 : Cond.selects "PadeWorkbenchModel" my_M_substitute my_M_substitute ∈ pw_gt := pw_gt_at 938 (by decide +kernel) rfl
theorem mq_939 : Cond.code my_M_substitute prog_14_method_22_code 6 (some .int) ∈ pw_gt := pw_gt_at 939 (by decide +kernel) rfl
theorem mq_941 : Cond.instanceMethod my_M_derivative ∈ pw_gt := pw_gt_at 941 (by decide +kernel) rfl
theorem mq_942 : Cond.selects "PadeWorkbenchModel" my_M_derivative my_M_derivative ∈ pw_gt := pw_gt_at 942 (by decide +kernel) rfl
theorem mq_943 : Cond.code my_M_derivative prog_14_method_23_code 4 (some .int) ∈ pw_gt := pw_gt_at 943 (by decide +kernel) rfl
theorem mq_945 : Cond.instanceMethod my_M_append ∈ pw_gt := pw_gt_at 945 (by decide +kernel) rfl
theorem mq_946 : Cond.selects "PadeWorkbenchModel" my_M_append my_M_append ∈ pw_gt := pw_gt_at 946 (by decide +kernel) rfl
theorem mq_947 : Cond.code my_M_append prog_14_method_24_code 2 (some .int) ∈ pw_gt := pw_gt_at 947 (by decide +kernel) rfl
theorem mq_949 : Cond.instanceMethod my_M_clearText ∈ pw_gt := pw_gt_at 949 (by decide +kernel) rfl
theorem mq_950 : Cond.selects "PadeWorkbenchModel" my_M_clearText my_M_clearText ∈ pw_gt := pw_gt_at 950 (by decide +kernel) rfl
theorem mq_951 : Cond.code my_M_clearText prog_14_method_25_code 2 (some .int) ∈ pw_gt := pw_gt_at 951 (by decide +kernel) rfl
theorem mq_953 : Cond.instanceMethod my_M_parse ∈ pw_gt := pw_gt_at 953 (by decide +kernel) rfl
theorem mq_954 : Cond.selects "PadeWorkbenchModel" my_M_parse my_M_parse ∈ pw_gt := pw_gt_at 954 (by decide +kernel) rfl
theorem mq_955 : Cond.code my_M_parse prog_14_method_33_code 2 (some .int) ∈ pw_gt := pw_gt_at 955 (by decide +kernel) rfl
theorem mq_956 : Cond.methodLink "PadeWorkbenchModel" 141 my_M_readFraction ∈ pw_gt := pw_gt_at 956 (by decide +kernel) rfl
theorem mq_958 : Cond.instanceMethod my_M_readFraction ∈ pw_gt := pw_gt_at 958 (by decide +kernel) rfl
theorem mq_959 : Cond.code my_M_readFraction prog_14_method_32_code 1 (some .boolean) ∈ pw_gt := pw_gt_at 959 (by decide +kernel) rfl
theorem mq_960 : Cond.methodLink "PadeWorkbenchModel" 137 my_M_readPolynomial ∈ pw_gt := pw_gt_at 960 (by decide +kernel) rfl
theorem mq_962 : Cond.instanceMethod my_M_readPolynomial ∈ pw_gt := pw_gt_at 962 (by decide +kernel) rfl
theorem mq_963 : Cond.code my_M_readPolynomial prog_14_method_31_code 4 (some .boolean) ∈ pw_gt := pw_gt_at 963 (by decide +kernel) rfl
theorem mq_964 : Cond.methodLink "PadeWorkbenchModel" 123 my_M_skip ∈ pw_gt := pw_gt_at 964 (by decide +kernel) rfl
theorem mq_966 : Cond.instanceMethod my_M_skip ∈ pw_gt := pw_gt_at 966 (by decide +kernel) rfl
theorem mq_967 : Cond.code my_M_skip prog_14_method_28_code 1 none ∈ pw_gt := pw_gt_at 967 (by decide +kernel) rfl
theorem mq_968 : Cond.methodLink "PadeWorkbenchModel" 120 my_M_here ∈ pw_gt := pw_gt_at 968 (by decide +kernel) rfl
theorem mq_970 : Cond.instanceMethod my_M_here ∈ pw_gt := pw_gt_at 970 (by decide +kernel) rfl
theorem mq_971 : Cond.code my_M_here prog_14_method_26_code 1 (some .int) ∈ pw_gt := pw_gt_at 971 (by decide +kernel) rfl
theorem mq_972 : Cond.methodLink "PadeWorkbenchModel" 133 my_M_readTerm ∈ pw_gt := pw_gt_at 972 (by decide +kernel) rfl
theorem mq_974 : Cond.instanceMethod my_M_readTerm ∈ pw_gt := pw_gt_at 974 (by decide +kernel) rfl
theorem mq_975 : Cond.code my_M_readTerm prog_14_method_30_code 6 (some .boolean) ∈ pw_gt := pw_gt_at 975 (by decide +kernel) rfl
theorem mq_976 : Cond.methodLink "PadeWorkbenchModel" 126 my_M_isDigit ∈ pw_gt := pw_gt_at 976 (by decide +kernel) rfl
theorem mq_978 : Cond.instanceMethod my_M_isDigit ∈ pw_gt := pw_gt_at 978 (by decide +kernel) rfl
theorem mq_979 : Cond.code my_M_isDigit prog_14_method_27_code 1 (some .boolean) ∈ pw_gt := pw_gt_at 979 (by decide +kernel) rfl
theorem mq_980 : Cond.methodLink "PadeWorkbenchModel" 130 my_M_readExponent ∈ pw_gt := pw_gt_at 980 (by decide +kernel) rfl
theorem mq_982 : Cond.instanceMethod my_M_readExponent ∈ pw_gt := pw_gt_at 982 (by decide +kernel) rfl
theorem mq_983 : Cond.code my_M_readExponent prog_14_method_29_code 3 (some .int) ∈ pw_gt := pw_gt_at 983 (by decide +kernel) rfl
theorem mq_985 : Cond.instanceMethod my_M_numeratorDegree ∈ pw_gt := pw_gt_at 985 (by decide +kernel) rfl
theorem mq_986 : Cond.selects "PadeWorkbenchModel" my_M_numeratorDegree my_M_numeratorDegree ∈ pw_gt := pw_gt_at 986 (by decide +kernel) rfl
theorem mq_987 : Cond.code my_M_numeratorDegree prog_14_method_49_code 4 (some .int) ∈ pw_gt := pw_gt_at 987 (by decide +kernel) rfl
theorem mq_988 : Cond.methodLink "PadeWorkbenchModel" 180 my_M_isPair ∈ pw_gt := pw_gt_at 988 (by decide +kernel) rfl
theorem mq_990 : Cond.instanceMethod my_M_isPair ∈ pw_gt := pw_gt_at 990 (by decide +kernel) rfl
theorem mq_991 : Cond.code my_M_isPair prog_14_method_44_code 4 (some .boolean) ∈ pw_gt := pw_gt_at 991 (by decide +kernel) rfl
theorem mq_992 : Cond.methodLink "PadeWorkbenchModel" 183 my_M_approximate ∈ pw_gt := pw_gt_at 992 (by decide +kernel) rfl
theorem mq_994 : Cond.instanceMethod my_M_approximate ∈ pw_gt := pw_gt_at 994 (by decide +kernel) rfl
theorem mq_995 : Cond.code my_M_approximate prog_14_method_45_code 7 none ∈ pw_gt := pw_gt_at 995 (by decide +kernel) rfl
theorem mq_996 : Cond.methodLink "PadeWorkbenchModel" 171 my_M_findVector ∈ pw_gt := pw_gt_at 996 (by decide +kernel) rfl
theorem mq_998 : Cond.instanceMethod my_M_findVector ∈ pw_gt := pw_gt_at 998 (by decide +kernel) rfl
theorem mq_999 : Cond.code my_M_findVector prog_14_method_38_code 5 none ∈ pw_gt := pw_gt_at 999 (by decide +kernel) rfl
theorem mq_1000 : Cond.methodLink "PadeWorkbenchModel" 156 my_M_reduce ∈ pw_gt := pw_gt_at 1000 (by decide +kernel) rfl
theorem mq_1002 : Cond.instanceMethod my_M_reduce ∈ pw_gt := pw_gt_at 1002 (by decide +kernel) rfl
theorem mq_1003 : Cond.code my_M_reduce prog_14_method_37_code 8 none ∈ pw_gt := pw_gt_at 1003 (by decide +kernel) rfl
theorem mq_1004 : Cond.methodLink "PadeWorkbenchModel" 144 my_M_rowWith ∈ pw_gt := pw_gt_at 1004 (by decide +kernel) rfl
theorem mq_1006 : Cond.instanceMethod my_M_rowWith ∈ pw_gt := pw_gt_at 1006 (by decide +kernel) rfl
theorem mq_1007 : Cond.code my_M_rowWith prog_14_method_36_code 5 (some .int) ∈ pw_gt := pw_gt_at 1007 (by decide +kernel) rfl
theorem mq_1008 : Cond.methodLink "PadeWorkbenchModel" 148 my_M_exchange ∈ pw_gt := pw_gt_at 1008 (by decide +kernel) rfl
theorem mq_1010 : Cond.instanceMethod my_M_exchange ∈ pw_gt := pw_gt_at 1010 (by decide +kernel) rfl
theorem mq_1011 : Cond.code my_M_exchange prog_14_method_34_code 5 none ∈ pw_gt := pw_gt_at 1011 (by decide +kernel) rfl
theorem mq_1012 : Cond.methodLink "PadeWorkbenchModel" 152 my_M_lessRow ∈ pw_gt := pw_gt_at 1012 (by decide +kernel) rfl
theorem mq_1014 : Cond.instanceMethod my_M_lessRow ∈ pw_gt := pw_gt_at 1014 (by decide +kernel) rfl
theorem mq_1015 : Cond.code my_M_lessRow prog_14_method_35_code 5 none ∈ pw_gt := pw_gt_at 1015 (by decide +kernel) rfl
theorem mq_1016 : Cond.methodLink "PadeWorkbenchModel" 174 my_M_toLowest ∈ pw_gt := pw_gt_at 1016 (by decide +kernel) rfl
theorem mq_1018 : Cond.instanceMethod my_M_toLowest ∈ pw_gt := pw_gt_at 1018 (by decide +kernel) rfl
theorem mq_1019 : Cond.code my_M_toLowest prog_14_method_42_code 4 none ∈ pw_gt := pw_gt_at 1019 (by decide +kernel) rfl
theorem mq_1020 : Cond.methodLink "PadeWorkbenchModel" 159 my_M_degree ∈ pw_gt := pw_gt_at 1020 (by decide +kernel) rfl
theorem mq_1021 : Cond.static my_M_degree ∈ pw_gt := pw_gt_at 1021 (by decide +kernel) rfl
theorem mq_1022 : Cond.code my_M_degree prog_14_method_39_code 3 (some .int) ∈ pw_gt := pw_gt_at 1022 (by decide +kernel) rfl
theorem mq_1023 : Cond.methodLink "PadeWorkbenchModel" 163 my_M_copy ∈ pw_gt := pw_gt_at 1023 (by decide +kernel) rfl
theorem mq_1024 : Cond.static my_M_copy ∈ pw_gt := pw_gt_at 1024 (by decide +kernel) rfl
theorem mq_1025 : Cond.code my_M_copy prog_14_method_40_code 3 none ∈ pw_gt := pw_gt_at 1025 (by decide +kernel) rfl
theorem mq_1026 : Cond.methodLink "PadeWorkbenchModel" 167 my_M_divide ∈ pw_gt := pw_gt_at 1026 (by decide +kernel) rfl
theorem mq_1028 : Cond.instanceMethod my_M_divide ∈ pw_gt := pw_gt_at 1028 (by decide +kernel) rfl
theorem mq_1029 : Cond.code my_M_divide prog_14_method_41_code 9 none ∈ pw_gt := pw_gt_at 1029 (by decide +kernel) rfl
theorem mq_1030 : Cond.methodLink "PadeWorkbenchModel" 186 my_M_degreeOrNone ∈ pw_gt := pw_gt_at 1030 (by decide +kernel) rfl
theorem mq_1032 : Cond.instanceMethod my_M_degreeOrNone ∈ pw_gt := pw_gt_at 1032 (by decide +kernel) rfl
theorem mq_1033 : Cond.code my_M_degreeOrNone prog_14_method_48_code 3 (some .int) ∈ pw_gt := pw_gt_at 1033 (by decide +kernel) rfl
theorem mq_1035 : Cond.instanceMethod my_M_denominatorDegree ∈ pw_gt := pw_gt_at 1035 (by decide +kernel) rfl
theorem mq_1036 : Cond.selects "PadeWorkbenchModel" my_M_denominatorDegree my_M_denominatorDegree ∈ pw_gt := pw_gt_at 1036 (by decide +kernel) rfl
theorem mq_1037 : Cond.code my_M_denominatorDegree prog_14_method_50_code 4 (some .int) ∈ pw_gt := pw_gt_at 1037 (by decide +kernel) rfl
theorem mq_1039 : Cond.instanceMethod my_M_numerator ∈ pw_gt := pw_gt_at 1039 (by decide +kernel) rfl
theorem mq_1040 : Cond.selects "PadeWorkbenchModel" my_M_numerator my_M_numerator ∈ pw_gt := pw_gt_at 1040 (by decide +kernel) rfl
theorem mq_1041 : Cond.code my_M_numerator prog_14_method_51_code 5 (some .int) ∈ pw_gt := pw_gt_at 1041 (by decide +kernel) rfl
theorem mq_1043 : Cond.instanceMethod my_M_denominator ∈ pw_gt := pw_gt_at 1043 (by decide +kernel) rfl
theorem mq_1044 : Cond.selects "PadeWorkbenchModel" my_M_denominator my_M_denominator ∈ pw_gt := pw_gt_at 1044 (by decide +kernel) rfl
theorem mq_1045 : Cond.code my_M_denominator prog_14_method_52_code 5 (some .int) ∈ pw_gt := pw_gt_at 1045 (by decide +kernel) rfl
theorem mq_1047 : Cond.instanceMethod my_M_order ∈ pw_gt := pw_gt_at 1047 (by decide +kernel) rfl
theorem mq_1048 : Cond.selects "PadeWorkbenchModel" my_M_order my_M_order ∈ pw_gt := pw_gt_at 1048 (by decide +kernel) rfl
theorem mq_1049 : Cond.code my_M_order prog_14_method_53_code 4 (some .int) ∈ pw_gt := pw_gt_at 1049 (by decide +kernel) rfl
theorem mq_1050 : Cond.methodLink "PadeWorkbenchModel" 177 my_M_orderOf ∈ pw_gt := pw_gt_at 1050 (by decide +kernel) rfl
theorem mq_1052 : Cond.instanceMethod my_M_orderOf ∈ pw_gt := pw_gt_at 1052 (by decide +kernel) rfl
theorem mq_1053 : Cond.code my_M_orderOf prog_14_method_46_code 3 (some .int) ∈ pw_gt := pw_gt_at 1053 (by decide +kernel) rfl
theorem mq_1055 : Cond.instanceMethod my_M_blockSize ∈ pw_gt := pw_gt_at 1055 (by decide +kernel) rfl
theorem mq_1056 : Cond.selects "PadeWorkbenchModel" my_M_blockSize my_M_blockSize ∈ pw_gt := pw_gt_at 1056 (by decide +kernel) rfl
theorem mq_1057 : Cond.code my_M_blockSize prog_14_method_54_code 4 (some .int) ∈ pw_gt := pw_gt_at 1057 (by decide +kernel) rfl
theorem mq_1058 : Cond.methodLink "PadeWorkbenchModel" 189 my_M_sizeOf ∈ pw_gt := pw_gt_at 1058 (by decide +kernel) rfl
theorem mq_1060 : Cond.instanceMethod my_M_sizeOf ∈ pw_gt := pw_gt_at 1060 (by decide +kernel) rfl
theorem mq_1061 : Cond.code my_M_sizeOf prog_14_method_47_code 2 (some .int) ∈ pw_gt := pw_gt_at 1061 (by decide +kernel) rfl
theorem mq_1063 : Cond.instanceMethod my_M_evaluate ∈ pw_gt := pw_gt_at 1063 (by decide +kernel) rfl
theorem mq_1064 : Cond.selects "PadeWorkbenchModel" my_M_evaluate my_M_evaluate ∈ pw_gt := pw_gt_at 1064 (by decide +kernel) rfl
theorem mq_1065 : Cond.code my_M_evaluate prog_14_method_55_code 6 (some .int) ∈ pw_gt := pw_gt_at 1065 (by decide +kernel) rfl
theorem mq_1066 : Cond.methodLink "PadeWorkbenchModel" 192 my_M_valueAt ∈ pw_gt := pw_gt_at 1066 (by decide +kernel) rfl
theorem mq_1068 : Cond.instanceMethod my_M_valueAt ∈ pw_gt := pw_gt_at 1068 (by decide +kernel) rfl
theorem mq_1069 : Cond.code my_M_valueAt prog_14_method_43_code 5 (some .int) ∈ pw_gt := pw_gt_at 1069 (by decide +kernel) rfl
theorem mq_1071 : Cond.instanceMethod my_M_normalCount ∈ pw_gt := pw_gt_at 1071 (by decide +kernel) rfl
theorem mq_1072 : Cond.selects "PadeWorkbenchModel" my_M_normalCount my_M_normalCount ∈ pw_gt := pw_gt_at 1072 (by decide +kernel) rfl
theorem mq_1073 : Cond.code my_M_normalCount prog_14_method_57_code 3 (some .int) ∈ pw_gt := pw_gt_at 1073 (by decide +kernel) rfl
theorem mq_1074 : Cond.methodLink "PadeWorkbenchModel" 196 my_M_normals ∈ pw_gt := pw_gt_at 1074 (by decide +kernel) rfl
theorem mq_1076 : Cond.instanceMethod my_M_normals ∈ pw_gt := pw_gt_at 1076 (by decide +kernel) rfl
theorem mq_1077 : Cond.code my_M_normals prog_14_method_56_code 5 (some .int) ∈ pw_gt := pw_gt_at 1077 (by decide +kernel) rfl
theorem mq_1079 : Cond.instanceMethod my_M_determinant ∈ pw_gt := pw_gt_at 1079 (by decide +kernel) rfl
theorem mq_1080 : Cond.selects "PadeWorkbenchModel" my_M_determinant my_M_determinant ∈ pw_gt := pw_gt_at 1080 (by decide +kernel) rfl
theorem mq_1081 : Cond.code my_M_determinant prog_14_method_58_code 9 (some .int) ∈ pw_gt := pw_gt_at 1081 (by decide +kernel) rfl
theorem mq_1083 : Cond.instanceMethod my_M_quotientDifference ∈ pw_gt := pw_gt_at 1083 (by decide +kernel) rfl
theorem mq_1084 : Cond.selects "PadeWorkbenchModel" my_M_quotientDifference my_M_quotientDifference ∈ pw_gt := pw_gt_at 1084 (by decide +kernel) rfl
theorem mq_1085 : Cond.code my_M_quotientDifference prog_14_method_61_code 7 (some .int) ∈ pw_gt := pw_gt_at 1085 (by decide +kernel) rfl
theorem mq_1086 : Cond.methodLink "PadeWorkbenchModel" 202 my_M_findScheme ∈ pw_gt := pw_gt_at 1086 (by decide +kernel) rfl
theorem mq_1088 : Cond.instanceMethod my_M_findScheme ∈ pw_gt := pw_gt_at 1088 (by decide +kernel) rfl
theorem mq_1089 : Cond.code my_M_findScheme prog_14_method_60_code 7 none ∈ pw_gt := pw_gt_at 1089 (by decide +kernel) rfl
theorem mq_1090 : Cond.methodLink "PadeWorkbenchModel" 199 my_M_cell ∈ pw_gt := pw_gt_at 1090 (by decide +kernel) rfl
theorem mq_1091 : Cond.static my_M_cell ∈ pw_gt := pw_gt_at 1091 (by decide +kernel) rfl
theorem mq_1092 : Cond.code my_M_cell prog_14_method_59_code 2 (some .int) ∈ pw_gt := pw_gt_at 1092 (by decide +kernel) rfl
theorem mq_1094 : Cond.instanceMethod my_M_quotientCount ∈ pw_gt := pw_gt_at 1094 (by decide +kernel) rfl
theorem mq_1095 : Cond.selects "PadeWorkbenchModel" my_M_quotientCount my_M_quotientCount ∈ pw_gt := pw_gt_at 1095 (by decide +kernel) rfl
theorem mq_1096 : Cond.code my_M_quotientCount prog_14_method_64_code 3 (some .int) ∈ pw_gt := pw_gt_at 1096 (by decide +kernel) rfl
theorem mq_1097 : Cond.methodLink "PadeWorkbenchModel" 206 my_M_isCut ∈ pw_gt := pw_gt_at 1097 (by decide +kernel) rfl
theorem mq_1099 : Cond.instanceMethod my_M_isCut ∈ pw_gt := pw_gt_at 1099 (by decide +kernel) rfl
theorem mq_1100 : Cond.code my_M_isCut prog_14_method_62_code 3 (some .boolean) ∈ pw_gt := pw_gt_at 1100 (by decide +kernel) rfl
theorem mq_1101 : Cond.methodLink "PadeWorkbenchModel" 210 my_M_findQuotients ∈ pw_gt := pw_gt_at 1101 (by decide +kernel) rfl
theorem mq_1103 : Cond.instanceMethod my_M_findQuotients ∈ pw_gt := pw_gt_at 1103 (by decide +kernel) rfl
theorem mq_1104 : Cond.code my_M_findQuotients prog_14_method_63_code 5 (some .int) ∈ pw_gt := pw_gt_at 1104 (by decide +kernel) rfl
theorem mq_1106 : Cond.instanceMethod my_M_quotient ∈ pw_gt := pw_gt_at 1106 (by decide +kernel) rfl
theorem mq_1107 : Cond.selects "PadeWorkbenchModel" my_M_quotient my_M_quotient ∈ pw_gt := pw_gt_at 1107 (by decide +kernel) rfl
theorem mq_1108 : Cond.code my_M_quotient prog_14_method_65_code 5 (some .int) ∈ pw_gt := pw_gt_at 1108 (by decide +kernel) rfl
theorem mq_1110 : Cond.instanceMethod my_M_complexity ∈ pw_gt := pw_gt_at 1110 (by decide +kernel) rfl
theorem mq_1111 : Cond.selects "PadeWorkbenchModel" my_M_complexity my_M_complexity ∈ pw_gt := pw_gt_at 1111 (by decide +kernel) rfl
theorem mq_1112 : Cond.code my_M_complexity prog_14_method_68_code 3 (some .int) ∈ pw_gt := pw_gt_at 1112 (by decide +kernel) rfl
theorem mq_1113 : Cond.methodLink "PadeWorkbenchModel" 216 my_M_complexityOf ∈ pw_gt := pw_gt_at 1113 (by decide +kernel) rfl
theorem mq_1115 : Cond.instanceMethod my_M_complexityOf ∈ pw_gt := pw_gt_at 1115 (by decide +kernel) rfl
theorem mq_1116 : Cond.code my_M_complexityOf prog_14_method_67_code 4 (some .int) ∈ pw_gt := pw_gt_at 1116 (by decide +kernel) rfl
theorem mq_1117 : Cond.methodLink "PadeWorkbenchModel" 213 my_M_isRecurrent ∈ pw_gt := pw_gt_at 1117 (by decide +kernel) rfl
theorem mq_1119 : Cond.instanceMethod my_M_isRecurrent ∈ pw_gt := pw_gt_at 1119 (by decide +kernel) rfl
theorem mq_1120 : Cond.code my_M_isRecurrent prog_14_method_66_code 6 (some .boolean) ∈ pw_gt := pw_gt_at 1120 (by decide +kernel) rfl
theorem mq_1122 : Cond.instanceMethod my_M_recurrence ∈ pw_gt := pw_gt_at 1122 (by decide +kernel) rfl
theorem mq_1123 : Cond.selects "PadeWorkbenchModel" my_M_recurrence my_M_recurrence ∈ pw_gt := pw_gt_at 1123 (by decide +kernel) rfl
theorem mq_1124 : Cond.code my_M_recurrence prog_14_method_69_code 5 (some .int) ∈ pw_gt := pw_gt_at 1124 (by decide +kernel) rfl
theorem mq_1126 : Cond.instanceMethod my_M_addPoint ∈ pw_gt := pw_gt_at 1126 (by decide +kernel) rfl
theorem mq_1127 : Cond.selects "PadeWorkbenchModel" my_M_addPoint my_M_addPoint ∈ pw_gt := pw_gt_at 1127 (by decide +kernel) rfl
theorem mq_1128 : Cond.code my_M_addPoint prog_14_method_71_code 4 (some .int) ∈ pw_gt := pw_gt_at 1128 (by decide +kernel) rfl
theorem mq_1129 : Cond.methodLink "PadeWorkbenchModel" 219 my_M_points ∈ pw_gt := pw_gt_at 1129 (by decide +kernel) rfl
theorem mq_1131 : Cond.instanceMethod my_M_points ∈ pw_gt := pw_gt_at 1131 (by decide +kernel) rfl
theorem mq_1132 : Cond.code my_M_points prog_14_method_70_code 1 (some .int) ∈ pw_gt := pw_gt_at 1132 (by decide +kernel) rfl
theorem mq_1134 : Cond.instanceMethod my_M_clearPoints ∈ pw_gt := pw_gt_at 1134 (by decide +kernel) rfl
theorem mq_1135 : Cond.selects "PadeWorkbenchModel" my_M_clearPoints my_M_clearPoints ∈ pw_gt := pw_gt_at 1135 (by decide +kernel) rfl
theorem mq_1136 : Cond.code my_M_clearPoints prog_14_method_72_code 3 (some .int) ∈ pw_gt := pw_gt_at 1136 (by decide +kernel) rfl
theorem mq_1138 : Cond.instanceMethod my_M_interpolant ∈ pw_gt := pw_gt_at 1138 (by decide +kernel) rfl
theorem mq_1139 : Cond.selects "PadeWorkbenchModel" my_M_interpolant my_M_interpolant ∈ pw_gt := pw_gt_at 1139 (by decide +kernel) rfl
theorem mq_1140 : Cond.code my_M_interpolant prog_14_method_75_code 4 (some .int) ∈ pw_gt := pw_gt_at 1140 (by decide +kernel) rfl
theorem mq_1141 : Cond.methodLink "PadeWorkbenchModel" 222 my_M_interpolate ∈ pw_gt := pw_gt_at 1141 (by decide +kernel) rfl
theorem mq_1143 : Cond.instanceMethod my_M_interpolate ∈ pw_gt := pw_gt_at 1143 (by decide +kernel) rfl
theorem mq_1144 : Cond.code my_M_interpolate prog_14_method_73_code 6 none ∈ pw_gt := pw_gt_at 1144 (by decide +kernel) rfl
theorem mq_1146 : Cond.instanceMethod my_M_unattainable ∈ pw_gt := pw_gt_at 1146 (by decide +kernel) rfl
theorem mq_1147 : Cond.selects "PadeWorkbenchModel" my_M_unattainable my_M_unattainable ∈ pw_gt := pw_gt_at 1147 (by decide +kernel) rfl
theorem mq_1148 : Cond.code my_M_unattainable prog_14_method_76_code 2 (some .int) ∈ pw_gt := pw_gt_at 1148 (by decide +kernel) rfl
theorem mq_1149 : Cond.methodLink "PadeWorkbenchModel" 225 my_M_missed ∈ pw_gt := pw_gt_at 1149 (by decide +kernel) rfl
theorem mq_1151 : Cond.instanceMethod my_M_missed ∈ pw_gt := pw_gt_at 1151 (by decide +kernel) rfl
theorem mq_1152 : Cond.code my_M_missed prog_14_method_74_code 5 (some .int) ∈ pw_gt := pw_gt_at 1152 (by decide +kernel) rfl
theorem mq_1154 : Cond.instanceMethod my_M_undo ∈ pw_gt := pw_gt_at 1154 (by decide +kernel) rfl
theorem mq_1155 : Cond.selects "PadeWorkbenchModel" my_M_undo my_M_undo ∈ pw_gt := pw_gt_at 1155 (by decide +kernel) rfl
theorem mq_1156 : Cond.code my_M_undo prog_14_method_77_code 2 (some .int) ∈ pw_gt := pw_gt_at 1156 (by decide +kernel) rfl
theorem mq_1158 : Cond.instanceMethod my_M_errorCount ∈ pw_gt := pw_gt_at 1158 (by decide +kernel) rfl
theorem mq_1159 : Cond.selects "PadeWorkbenchModel" my_M_errorCount my_M_errorCount ∈ pw_gt := pw_gt_at 1159 (by decide +kernel) rfl
theorem mq_1160 : Cond.code my_M_errorCount prog_14_method_78_code 2 (some .int) ∈ pw_gt := pw_gt_at 1160 (by decide +kernel) rfl
theorem mq_1162 : Cond.instanceMethod my_M_digest ∈ pw_gt := pw_gt_at 1162 (by decide +kernel) rfl
theorem mq_1163 : Cond.selects "PadeWorkbenchModel" my_M_digest my_M_digest ∈ pw_gt := pw_gt_at 1163 (by decide +kernel) rfl
theorem mq_1164 : Cond.code my_M_digest prog_14_method_79_code 5 (some .long) ∈ pw_gt := pw_gt_at 1164 (by decide +kernel) rfl
theorem mq_1165 : Cond.constantLong "PadeWorkbenchModel" 228 12475 ∈ pw_gt := pw_gt_at 1165 (by decide +kernel) rfl
theorem mq_1166 : Cond.constantLong "PadeWorkbenchModel" 230 31 ∈ pw_gt := pw_gt_at 1166 (by decide +kernel) rfl
theorem mn_134 : Cond.methodLinkNest "PadeWorkbench$History" 17 my_Z_init "PadeWorkbench" ∈ pw_nest := List.mem_append_right _ (List.mem_append_left _ (List.mem_map.mpr ⟨_, List.mem_of_getElem? (i := 1) rfl, rfl⟩))
theorem mn_183 : Cond.methodLinkNest "PadeWorkbench$Euclid" 11 my_P_init "PadeWorkbench" ∈ pw_nest := List.mem_append_right _ (List.mem_append_left _ (List.mem_map.mpr ⟨_, List.mem_of_getElem? (i := 4) rfl, rfl⟩))
theorem mn_229 : Cond.methodLinkNest "PadeWorkbench$Fraction" 11 my_P_init "PadeWorkbench" ∈ pw_nest := List.mem_append_right _ (List.mem_append_left _ (List.mem_map.mpr ⟨_, List.mem_of_getElem? (i := 6) rfl, rfl⟩))
theorem mn_94 : Cond.methodLinkNest "PadeWorkbench" 9 my_Z_init "PadeWorkbench" ∈ pw_nest := List.mem_append_right _ (List.mem_append_left _ (List.mem_map.mpr ⟨_, List.mem_of_getElem? (i := 0) rfl, rfl⟩))
theorem mn_148 : Cond.methodLinkNest "PadeWorkbench" 25 my_T_init "PadeWorkbench" ∈ pw_nest := List.mem_append_right _ (List.mem_append_left _ (List.mem_map.mpr ⟨_, List.mem_of_getElem? (i := 2) rfl, rfl⟩))
theorem mn_177 : Cond.methodLinkNest "PadeWorkbench" 32 my_E_init "PadeWorkbench" ∈ pw_nest := List.mem_append_right _ (List.mem_append_left _ (List.mem_map.mpr ⟨_, List.mem_of_getElem? (i := 3) rfl, rfl⟩))
theorem mn_224 : Cond.methodLinkNest "PadeWorkbench" 39 my_R_init "PadeWorkbench" ∈ pw_nest := List.mem_append_right _ (List.mem_append_left _ (List.mem_map.mpr ⟨_, List.mem_of_getElem? (i := 5) rfl, rfl⟩))
theorem mn_241 : Cond.methodLinkNest "PadeWorkbench" 46 my_D_init "PadeWorkbench" ∈ pw_nest := List.mem_append_right _ (List.mem_append_left _ (List.mem_map.mpr ⟨_, List.mem_of_getElem? (i := 7) rfl, rfl⟩))
theorem mn_252 : Cond.methodLinkNest "PadeWorkbench" 53 my_Q_init "PadeWorkbench" ∈ pw_nest := List.mem_append_right _ (List.mem_append_left _ (List.mem_map.mpr ⟨_, List.mem_of_getElem? (i := 8) rfl, rfl⟩))
theorem mn_265 : Cond.methodLinkNest "PadeWorkbench" 60 my_B_init "PadeWorkbench" ∈ pw_nest := List.mem_append_right _ (List.mem_append_left _ (List.mem_map.mpr ⟨_, List.mem_of_getElem? (i := 9) rfl, rfl⟩))
theorem mn_101 : Cond.fieldLinkNest "PadeWorkbench" 83 "PadeWorkbench$State" "prime" "I" "PadeWorkbench" ∈ pw_nest := List.mem_append_left _ (List.mem_map.mpr ⟨_, List.mem_of_getElem? (i := 0) rfl, rfl⟩)
theorem mn_104 : Cond.fieldLinkNest "PadeWorkbench" 104 "PadeWorkbench$State" "series" "[[I" "PadeWorkbench" ∈ pw_nest := List.mem_append_left _ (List.mem_map.mpr ⟨_, List.mem_of_getElem? (i := 2) rfl, rfl⟩)
theorem mn_154 : Cond.fieldLinkNest "PadeWorkbench" 131 "PadeWorkbench$FractionText" "length" "I" "PadeWorkbench" ∈ pw_nest := List.mem_append_left _ (List.mem_map.mpr ⟨_, List.mem_of_getElem? (i := 10) rfl, rfl⟩)
theorem mn_161 : Cond.fieldLinkNest "PadeWorkbench" 143 "PadeWorkbench$FractionText" "bottom" "[I" "PadeWorkbench" ∈ pw_nest := List.mem_append_left _ (List.mem_map.mpr ⟨_, List.mem_of_getElem? (i := 13) rfl, rfl⟩)
theorem mn_159 : Cond.fieldLinkNest "PadeWorkbench" 146 "PadeWorkbench$FractionText" "top" "[I" "PadeWorkbench" ∈ pw_nest := List.mem_append_left _ (List.mem_map.mpr ⟨_, List.mem_of_getElem? (i := 12) rfl, rfl⟩)
theorem mn_156 : Cond.fieldLinkNest "PadeWorkbench" 140 "PadeWorkbench$FractionText" "position" "I" "PadeWorkbench" ∈ pw_nest := List.mem_append_left _ (List.mem_map.mpr ⟨_, List.mem_of_getElem? (i := 11) rfl, rfl⟩)
theorem mn_193 : Cond.fieldLinkNest "PadeWorkbench$Euclid" 87 "PadeWorkbench$Polynomial" "degree" "I" "PadeWorkbench" ∈ pw_nest := List.mem_append_left _ (List.mem_map.mpr ⟨_, List.mem_of_getElem? (i := 18) rfl, rfl⟩)
theorem mn_189 : Cond.fieldLinkNest "PadeWorkbench$Euclid" 96 "PadeWorkbench$Polynomial" "row" "[I" "PadeWorkbench" ∈ pw_nest := List.mem_append_left _ (List.mem_map.mpr ⟨_, List.mem_of_getElem? (i := 15) rfl, rfl⟩)
theorem mn_192 : Cond.fieldLinkNest "PadeWorkbench$Fraction" 25 "PadeWorkbench$Polynomial" "degree" "I" "PadeWorkbench" ∈ pw_nest := List.mem_append_left _ (List.mem_map.mpr ⟨_, List.mem_of_getElem? (i := 17) rfl, rfl⟩)
theorem mn_202 : Cond.fieldLinkNest "PadeWorkbench" 202 "PadeWorkbench$Euclid" "latest" "LPadeWorkbench$Polynomial;" "PadeWorkbench" ∈ pw_nest := List.mem_append_left _ (List.mem_map.mpr ⟨_, List.mem_of_getElem? (i := 20) rfl, rfl⟩)
theorem mn_205 : Cond.fieldLinkNest "PadeWorkbench" 292 "PadeWorkbench$Euclid" "cofactor" "LPadeWorkbench$Polynomial;" "PadeWorkbench" ∈ pw_nest := List.mem_append_left _ (List.mem_map.mpr ⟨_, List.mem_of_getElem? (i := 21) rfl, rfl⟩)
theorem mn_231 : Cond.fieldLinkNest "PadeWorkbench" 157 "PadeWorkbench$Fraction" "top" "LPadeWorkbench$Polynomial;" "PadeWorkbench" ∈ pw_nest := List.mem_append_left _ (List.mem_map.mpr ⟨_, List.mem_of_getElem? (i := 23) rfl, rfl⟩)
theorem mn_194 : Cond.fieldLinkNest "PadeWorkbench" 160 "PadeWorkbench$Polynomial" "degree" "I" "PadeWorkbench" ∈ pw_nest := List.mem_append_left _ (List.mem_map.mpr ⟨_, List.mem_of_getElem? (i := 19) rfl, rfl⟩)
theorem mn_233 : Cond.fieldLinkNest "PadeWorkbench" 165 "PadeWorkbench$Fraction" "bottom" "LPadeWorkbench$Polynomial;" "PadeWorkbench" ∈ pw_nest := List.mem_append_left _ (List.mem_map.mpr ⟨_, List.mem_of_getElem? (i := 24) rfl, rfl⟩)
theorem mn_190 : Cond.fieldLinkNest "PadeWorkbench" 167 "PadeWorkbench$Polynomial" "row" "[I" "PadeWorkbench" ∈ pw_nest := List.mem_append_left _ (List.mem_map.mpr ⟨_, List.mem_of_getElem? (i := 16) rfl, rfl⟩)
theorem mn_188 : Cond.fieldLinkNest "PadeWorkbench$Fraction" 53 "PadeWorkbench$Polynomial" "row" "[I" "PadeWorkbench" ∈ pw_nest := List.mem_append_left _ (List.mem_map.mpr ⟨_, List.mem_of_getElem? (i := 14) rfl, rfl⟩)
theorem mn_626 : Cond.methodLinkNest "PadeWorkbench$Toeplitz" 41 my_W_isTerm "PadeWorkbench" ∈ pw_nest := List.mem_append_right _ (List.mem_append_left _ (List.mem_map.mpr ⟨_, List.mem_of_getElem? (i := 10) rfl, rfl⟩))
theorem mn_207 : Cond.fieldLinkNest "PadeWorkbench" 208 "PadeWorkbench$Euclid" "quotient" "LPadeWorkbench$Polynomial;" "PadeWorkbench" ∈ pw_nest := List.mem_append_left _ (List.mem_map.mpr ⟨_, List.mem_of_getElem? (i := 22) rfl, rfl⟩)
theorem mn_274 : Cond.fieldLinkNest "PadeWorkbench" 214 "PadeWorkbench$Register" "size" "I" "PadeWorkbench" ∈ pw_nest := List.mem_append_left _ (List.mem_map.mpr ⟨_, List.mem_of_getElem? (i := 26) rfl, rfl⟩)
theorem mn_270 : Cond.fieldLinkNest "PadeWorkbench" 217 "PadeWorkbench$Register" "connection" "[I" "PadeWorkbench" ∈ pw_nest := List.mem_append_left _ (List.mem_map.mpr ⟨_, List.mem_of_getElem? (i := 25) rfl, rfl⟩)
theorem mn_107 : Cond.fieldLinkNest "PadeWorkbench" 226 "PadeWorkbench$State" "points" "I" "PadeWorkbench" ∈ pw_nest := List.mem_append_left _ (List.mem_map.mpr ⟨_, List.mem_of_getElem? (i := 4) rfl, rfl⟩)
theorem mn_102 : Cond.fieldLinkNest "PadeWorkbench$Euclid" 45 "PadeWorkbench$State" "prime" "I" "PadeWorkbench" ∈ pw_nest := List.mem_append_left _ (List.mem_map.mpr ⟨_, List.mem_of_getElem? (i := 1) rfl, rfl⟩)
theorem mn_106 : Cond.fieldLinkNest "PadeWorkbench$Euclid" 53 "PadeWorkbench$State" "points" "I" "PadeWorkbench" ∈ pw_nest := List.mem_append_left _ (List.mem_map.mpr ⟨_, List.mem_of_getElem? (i := 3) rfl, rfl⟩)
theorem mn_109 : Cond.fieldLinkNest "PadeWorkbench$Euclid" 56 "PadeWorkbench$State" "xs" "[I" "PadeWorkbench" ∈ pw_nest := List.mem_append_left _ (List.mem_map.mpr ⟨_, List.mem_of_getElem? (i := 5) rfl, rfl⟩)
theorem mn_112 : Cond.fieldLinkNest "PadeWorkbench$Euclid" 60 "PadeWorkbench$State" "ys" "[I" "PadeWorkbench" ∈ pw_nest := List.mem_append_left _ (List.mem_map.mpr ⟨_, List.mem_of_getElem? (i := 7) rfl, rfl⟩)
theorem mn_110 : Cond.fieldLinkNest "PadeWorkbench" 264 "PadeWorkbench$State" "xs" "[I" "PadeWorkbench" ∈ pw_nest := List.mem_append_left _ (List.mem_map.mpr ⟨_, List.mem_of_getElem? (i := 6) rfl, rfl⟩)
theorem mn_113 : Cond.fieldLinkNest "PadeWorkbench" 267 "PadeWorkbench$State" "ys" "[I" "PadeWorkbench" ∈ pw_nest := List.mem_append_left _ (List.mem_map.mpr ⟨_, List.mem_of_getElem? (i := 8) rfl, rfl⟩)
theorem mn_138 : Cond.fieldLinkNest "PadeWorkbench" 243 "PadeWorkbench$History" "count" "I" "PadeWorkbench" ∈ pw_nest := List.mem_append_left _ (List.mem_map.mpr ⟨_, List.mem_of_getElem? (i := 9) rfl, rfl⟩)
theorem mcl_0 : pw_Cl 0 "PadeWorkbench$Euclid" pw_T0 6 pw_Y0 := ⟨rfl, by decide, (show ∀ w ∈ [Cond.lays "PadeWorkbench$Euclid" "PadeWorkbench$Euclid" "before" "LPadeWorkbench$Polynomial;", Cond.lays "PadeWorkbench$Euclid" "PadeWorkbench$Euclid" "latest" "LPadeWorkbench$Polynomial;", Cond.lays "PadeWorkbench$Euclid" "PadeWorkbench$Euclid" "cofactorBefore" "LPadeWorkbench$Polynomial;", Cond.lays "PadeWorkbench$Euclid" "PadeWorkbench$Euclid" "cofactor" "LPadeWorkbench$Polynomial;", Cond.laysFinal "PadeWorkbench$Euclid" "PadeWorkbench$Euclid" "quotient" "LPadeWorkbench$Polynomial;", Cond.lays "PadeWorkbench$Euclid" "PadeWorkbench$Euclid" "p" "I"], w ∈ pw_gt from List.forall_mem_cons.mpr ⟨mq_209, List.forall_mem_cons.mpr ⟨mq_211, List.forall_mem_cons.mpr ⟨mq_213, List.forall_mem_cons.mpr ⟨mq_215, List.forall_mem_cons.mpr ⟨mq_217, List.forall_mem_cons.mpr ⟨mq_219, fun _ h => absurd h List.not_mem_nil⟩⟩⟩⟩⟩⟩), pw_y0, pw_n0, rfl⟩
theorem mdf_0 : ∀ j, j < 6 → defaultValue (pw_Y0 j) = (match (pw_ft 0)[j]? with | some true => .int 0 | _ => .null) := by decide
theorem mcl_1 : pw_Cl 1 "PadeWorkbench$Fraction" pw_T1 2 pw_Y1 := ⟨rfl, by decide, (show ∀ w ∈ [Cond.laysFinal "PadeWorkbench$Fraction" "PadeWorkbench$Fraction" "top" "LPadeWorkbench$Polynomial;", Cond.laysFinal "PadeWorkbench$Fraction" "PadeWorkbench$Fraction" "bottom" "LPadeWorkbench$Polynomial;"], w ∈ pw_gt from List.forall_mem_cons.mpr ⟨mq_234, List.forall_mem_cons.mpr ⟨mq_236, fun _ h => absurd h List.not_mem_nil⟩⟩), pw_y1, pw_n1, rfl⟩
theorem mdf_1 : ∀ j, j < 2 → defaultValue (pw_Y1 j) = (match (pw_ft 1)[j]? with | some true => .int 0 | _ => .null) := by decide
theorem mcl_2 : pw_Cl 2 "PadeWorkbench$FractionText" pw_T2 6 pw_Y2 := ⟨rfl, by decide, (show ∀ w ∈ [Cond.laysFinal "PadeWorkbench$FractionText" "PadeWorkbench$FractionText" "bytes" "[I", Cond.lays "PadeWorkbench$FractionText" "PadeWorkbench$FractionText" "length" "I", Cond.lays "PadeWorkbench$FractionText" "PadeWorkbench$FractionText" "position" "I", Cond.lays "PadeWorkbench$FractionText" "PadeWorkbench$FractionText" "p" "I", Cond.laysFinal "PadeWorkbench$FractionText" "PadeWorkbench$FractionText" "top" "[I", Cond.laysFinal "PadeWorkbench$FractionText" "PadeWorkbench$FractionText" "bottom" "[I"], w ∈ pw_gt from List.forall_mem_cons.mpr ⟨mq_162, List.forall_mem_cons.mpr ⟨mq_164, List.forall_mem_cons.mpr ⟨mq_166, List.forall_mem_cons.mpr ⟨mq_168, List.forall_mem_cons.mpr ⟨mq_170, List.forall_mem_cons.mpr ⟨mq_172, fun _ h => absurd h List.not_mem_nil⟩⟩⟩⟩⟩⟩), pw_y2, pw_n2, rfl⟩
theorem mdf_2 : ∀ j, j < 6 → defaultValue (pw_Y2 j) = (match (pw_ft 2)[j]? with | some true => .int 0 | _ => .null) := by decide
theorem mcl_3 : pw_Cl 3 "PadeWorkbench$History" pw_T3 3 pw_Y3 := ⟨rfl, by decide, (show ∀ w ∈ [Cond.laysFinal "PadeWorkbench$History" "PadeWorkbench$History" "states" "[LPadeWorkbench$State;", Cond.lays "PadeWorkbench$History" "PadeWorkbench$History" "next" "I", Cond.lays "PadeWorkbench$History" "PadeWorkbench$History" "count" "I"], w ∈ pw_gt from List.forall_mem_cons.mpr ⟨mq_139, List.forall_mem_cons.mpr ⟨mq_141, List.forall_mem_cons.mpr ⟨mq_143, fun _ h => absurd h List.not_mem_nil⟩⟩⟩), pw_y3, pw_n3, rfl⟩
theorem mdf_3 : ∀ j, j < 3 → defaultValue (pw_Y3 j) = (match (pw_ft 3)[j]? with | some true => .int 0 | _ => .null) := by decide
theorem mcl_4 : pw_Cl 4 "PadeWorkbench$Polynomial" pw_T4 2 pw_Y4 := ⟨rfl, by decide, (show ∀ w ∈ [Cond.laysFinal "PadeWorkbench$Polynomial" "PadeWorkbench$Polynomial" "row" "[I", Cond.lays "PadeWorkbench$Polynomial" "PadeWorkbench$Polynomial" "degree" "I"], w ∈ pw_gt from List.forall_mem_cons.mpr ⟨mq_195, List.forall_mem_cons.mpr ⟨mq_197, fun _ h => absurd h List.not_mem_nil⟩⟩), pw_y4, pw_n4, rfl⟩
theorem mdf_4 : ∀ j, j < 2 → defaultValue (pw_Y4 j) = (match (pw_ft 4)[j]? with | some true => .int 0 | _ => .null) := by decide
theorem mcl_5 : pw_Cl 5 "PadeWorkbench$Register" pw_T5 4 pw_Y5 := ⟨rfl, by decide, (show ∀ w ∈ [Cond.lays "PadeWorkbench$Register" "PadeWorkbench$Register" "connection" "[I", Cond.lays "PadeWorkbench$Register" "PadeWorkbench$Register" "older" "[I", Cond.lays "PadeWorkbench$Register" "PadeWorkbench$Register" "spareRow" "[I", Cond.lays "PadeWorkbench$Register" "PadeWorkbench$Register" "size" "I"], w ∈ pw_gt from List.forall_mem_cons.mpr ⟨mq_275, List.forall_mem_cons.mpr ⟨mq_277, List.forall_mem_cons.mpr ⟨mq_279, List.forall_mem_cons.mpr ⟨mq_281, fun _ h => absurd h List.not_mem_nil⟩⟩⟩⟩), pw_y5, pw_n5, rfl⟩
theorem mdf_5 : ∀ j, j < 4 → defaultValue (pw_Y5 j) = (match (pw_ft 5)[j]? with | some true => .int 0 | _ => .null) := by decide
theorem mcl_6 : pw_Cl 6 "PadeWorkbench$Scheme" pw_T6 2 pw_Y6 := ⟨rfl, by decide, (show ∀ w ∈ [Cond.laysFinal "PadeWorkbench$Scheme" "PadeWorkbench$Scheme" "q" "[I", Cond.laysFinal "PadeWorkbench$Scheme" "PadeWorkbench$Scheme" "e" "[I"], w ∈ pw_gt from List.forall_mem_cons.mpr ⟨mq_258, List.forall_mem_cons.mpr ⟨mq_260, fun _ h => absurd h List.not_mem_nil⟩⟩), pw_y6, pw_n6, rfl⟩
theorem mdf_6 : ∀ j, j < 2 → defaultValue (pw_Y6 j) = (match (pw_ft 6)[j]? with | some true => .int 0 | _ => .null) := by decide
theorem mcl_7 : pw_Cl 7 "PadeWorkbench$State" pw_T7 5 pw_Y7 := ⟨rfl, by decide, (show ∀ w ∈ [Cond.lays "PadeWorkbench$State" "PadeWorkbench$State" "prime" "I", Cond.laysFinal "PadeWorkbench$State" "PadeWorkbench$State" "series" "[[I", Cond.lays "PadeWorkbench$State" "PadeWorkbench$State" "points" "I", Cond.laysFinal "PadeWorkbench$State" "PadeWorkbench$State" "xs" "[I", Cond.laysFinal "PadeWorkbench$State" "PadeWorkbench$State" "ys" "[I"], w ∈ pw_gt from List.forall_mem_cons.mpr ⟨mq_114, List.forall_mem_cons.mpr ⟨mq_116, List.forall_mem_cons.mpr ⟨mq_118, List.forall_mem_cons.mpr ⟨mq_120, List.forall_mem_cons.mpr ⟨mq_122, fun _ h => absurd h List.not_mem_nil⟩⟩⟩⟩⟩), pw_y7, pw_n7, rfl⟩
theorem mdf_7 : ∀ j, j < 5 → defaultValue (pw_Y7 j) = (match (pw_ft 7)[j]? with | some true => .int 0 | _ => .null) := by decide
theorem mcl_8 : pw_Cl 8 "PadeWorkbench$Toeplitz" pw_T8 1 pw_Y8 := ⟨rfl, by decide, (show ∀ w ∈ [Cond.laysFinal "PadeWorkbench$Toeplitz" "PadeWorkbench$Toeplitz" "cells" "[[I"], w ∈ pw_gt from List.forall_mem_cons.mpr ⟨mq_247, fun _ h => absurd h List.not_mem_nil⟩), pw_y8, pw_n8, rfl⟩
theorem mdf_8 : ∀ j, j < 1 → defaultValue (pw_Y8 j) = (match (pw_ft 8)[j]? with | some true => .int 0 | _ => .null) := by decide
theorem mcl_9 : pw_Cl 9 "PadeWorkbench" pw_T9 11 pw_Y9 := ⟨rfl, by decide, (show ∀ w ∈ [Cond.laysFinal "PadeWorkbench" "PadeWorkbench" "now" "LPadeWorkbench$State;", Cond.laysFinal "PadeWorkbench" "PadeWorkbench" "history" "LPadeWorkbench$History;", Cond.laysFinal "PadeWorkbench" "PadeWorkbench" "text" "LPadeWorkbench$FractionText;", Cond.laysFinal "PadeWorkbench" "PadeWorkbench" "euclid" "LPadeWorkbench$Euclid;", Cond.laysFinal "PadeWorkbench" "PadeWorkbench" "fraction" "LPadeWorkbench$Fraction;", Cond.laysFinal "PadeWorkbench" "PadeWorkbench" "toeplitz" "LPadeWorkbench$Toeplitz;", Cond.laysFinal "PadeWorkbench" "PadeWorkbench" "scheme" "LPadeWorkbench$Scheme;", Cond.laysFinal "PadeWorkbench" "PadeWorkbench" "register" "LPadeWorkbench$Register;", Cond.laysFinal "PadeWorkbench" "PadeWorkbench" "result" "[I", Cond.laysFinal "PadeWorkbench" "PadeWorkbench" "spare" "[I", Cond.laysFinal "PadeWorkbench" "PadeWorkbench" "errors" "[I"], w ∈ pw_gt from List.forall_mem_cons.mpr ⟨mq_295, List.forall_mem_cons.mpr ⟨mq_297, List.forall_mem_cons.mpr ⟨mq_299, List.forall_mem_cons.mpr ⟨mq_301, List.forall_mem_cons.mpr ⟨mq_303, List.forall_mem_cons.mpr ⟨mq_305, List.forall_mem_cons.mpr ⟨mq_307, List.forall_mem_cons.mpr ⟨mq_309, List.forall_mem_cons.mpr ⟨mq_311, List.forall_mem_cons.mpr ⟨mq_313, List.forall_mem_cons.mpr ⟨mq_315, fun _ h => absurd h List.not_mem_nil⟩⟩⟩⟩⟩⟩⟩⟩⟩⟩⟩), pw_y9, pw_n9, rfl⟩
theorem mdf_9 : ∀ j, j < 11 → defaultValue (pw_Y9 j) = (match (pw_ft 9)[j]? with | some true => .int 0 | _ => .null) := by decide
theorem mcl_10 : pw_Cl 10 "PadeWorkbenchModel" pw_T10 20 pw_Y10 := ⟨rfl, by decide, (show ∀ w ∈ [Cond.laysFinal "PadeWorkbenchModel" "PadeWorkbenchModel" "now" "[I", Cond.laysFinal "PadeWorkbenchModel" "PadeWorkbenchModel" "history" "[I", Cond.lays "PadeWorkbenchModel" "PadeWorkbenchModel" "saved" "I", Cond.laysFinal "PadeWorkbenchModel" "PadeWorkbenchModel" "errors" "[I", Cond.laysFinal "PadeWorkbenchModel" "PadeWorkbenchModel" "text" "[I", Cond.lays "PadeWorkbenchModel" "PadeWorkbenchModel" "length" "I", Cond.laysFinal "PadeWorkbenchModel" "PadeWorkbenchModel" "made" "[I", Cond.laysFinal "PadeWorkbenchModel" "PadeWorkbenchModel" "one" "[I", Cond.laysFinal "PadeWorkbenchModel" "PadeWorkbenchModel" "two" "[I", Cond.lays "PadeWorkbenchModel" "PadeWorkbenchModel" "next" "I", Cond.laysFinal "PadeWorkbenchModel" "PadeWorkbenchModel" "matrix" "[I", Cond.laysFinal "PadeWorkbenchModel" "PadeWorkbenchModel" "pivot" "[I", Cond.laysFinal "PadeWorkbenchModel" "PadeWorkbenchModel" "vector" "[I", Cond.laysFinal "PadeWorkbenchModel" "PadeWorkbenchModel" "up" "[I", Cond.laysFinal "PadeWorkbenchModel" "PadeWorkbenchModel" "low" "[I", Cond.laysFinal "PadeWorkbenchModel" "PadeWorkbenchModel" "first" "[I", Cond.laysFinal "PadeWorkbenchModel" "PadeWorkbenchModel" "second" "[I", Cond.laysFinal "PadeWorkbenchModel" "PadeWorkbenchModel" "third" "[I", Cond.laysFinal "PadeWorkbenchModel" "PadeWorkbenchModel" "quotients" "[I", Cond.laysFinal "PadeWorkbenchModel" "PadeWorkbenchModel" "differences" "[I"], w ∈ pw_gt from List.forall_mem_cons.mpr ⟨mq_819, List.forall_mem_cons.mpr ⟨mq_821, List.forall_mem_cons.mpr ⟨mq_823, List.forall_mem_cons.mpr ⟨mq_825, List.forall_mem_cons.mpr ⟨mq_827, List.forall_mem_cons.mpr ⟨mq_829, List.forall_mem_cons.mpr ⟨mq_831, List.forall_mem_cons.mpr ⟨mq_833, List.forall_mem_cons.mpr ⟨mq_835, List.forall_mem_cons.mpr ⟨mq_837, List.forall_mem_cons.mpr ⟨mq_839, List.forall_mem_cons.mpr ⟨mq_841, List.forall_mem_cons.mpr ⟨mq_843, List.forall_mem_cons.mpr ⟨mq_845, List.forall_mem_cons.mpr ⟨mq_847, List.forall_mem_cons.mpr ⟨mq_849, List.forall_mem_cons.mpr ⟨mq_851, List.forall_mem_cons.mpr ⟨mq_853, List.forall_mem_cons.mpr ⟨mq_855, List.forall_mem_cons.mpr ⟨mq_857, fun _ h => absurd h List.not_mem_nil⟩⟩⟩⟩⟩⟩⟩⟩⟩⟩⟩⟩⟩⟩⟩⟩⟩⟩⟩⟩), pw_y10, pw_n10, rfl⟩
theorem mdf_10 : ∀ j, j < 20 → defaultValue (pw_Y10 j) = (match (pw_ft 10)[j]? with | some true => .int 0 | _ => .null) := by decide
theorem mty_0_0 : narrow (pw_Y0 0) (.ref 0) = .ref 0 ∧ ∀ a, narrow (pw_Y0 0) (.ref a) = .ref a ∧ fits (pw_Y0 0) (.ref a) = true := ⟨rfl, fun _ => ⟨rfl, rfl⟩⟩
theorem mty_0_1 : narrow (pw_Y0 1) (.ref 0) = .ref 0 ∧ ∀ a, narrow (pw_Y0 1) (.ref a) = .ref a ∧ fits (pw_Y0 1) (.ref a) = true := ⟨rfl, fun _ => ⟨rfl, rfl⟩⟩
theorem mty_0_2 : narrow (pw_Y0 2) (.ref 0) = .ref 0 ∧ ∀ a, narrow (pw_Y0 2) (.ref a) = .ref a ∧ fits (pw_Y0 2) (.ref a) = true := ⟨rfl, fun _ => ⟨rfl, rfl⟩⟩
theorem mty_0_3 : narrow (pw_Y0 3) (.ref 0) = .ref 0 ∧ ∀ a, narrow (pw_Y0 3) (.ref a) = .ref a ∧ fits (pw_Y0 3) (.ref a) = true := ⟨rfl, fun _ => ⟨rfl, rfl⟩⟩
theorem mty_0_4 : narrow (pw_Y0 4) (.ref 0) = .ref 0 ∧ ∀ a, narrow (pw_Y0 4) (.ref a) = .ref a ∧ fits (pw_Y0 4) (.ref a) = true := ⟨rfl, fun _ => ⟨rfl, rfl⟩⟩
theorem mty_1_0 : narrow (pw_Y1 0) (.ref 0) = .ref 0 ∧ ∀ a, narrow (pw_Y1 0) (.ref a) = .ref a ∧ fits (pw_Y1 0) (.ref a) = true := ⟨rfl, fun _ => ⟨rfl, rfl⟩⟩
theorem mty_1_1 : narrow (pw_Y1 1) (.ref 0) = .ref 0 ∧ ∀ a, narrow (pw_Y1 1) (.ref a) = .ref a ∧ fits (pw_Y1 1) (.ref a) = true := ⟨rfl, fun _ => ⟨rfl, rfl⟩⟩
theorem mty_2_0 : narrow (pw_Y2 0) (.ref 0) = .ref 0 ∧ ∀ a, narrow (pw_Y2 0) (.ref a) = .ref a ∧ fits (pw_Y2 0) (.ref a) = true := ⟨rfl, fun _ => ⟨rfl, rfl⟩⟩
theorem mty_2_4 : narrow (pw_Y2 4) (.ref 0) = .ref 0 ∧ ∀ a, narrow (pw_Y2 4) (.ref a) = .ref a ∧ fits (pw_Y2 4) (.ref a) = true := ⟨rfl, fun _ => ⟨rfl, rfl⟩⟩
theorem mty_2_5 : narrow (pw_Y2 5) (.ref 0) = .ref 0 ∧ ∀ a, narrow (pw_Y2 5) (.ref a) = .ref a ∧ fits (pw_Y2 5) (.ref a) = true := ⟨rfl, fun _ => ⟨rfl, rfl⟩⟩
theorem mty_3_0 : narrow (pw_Y3 0) (.ref 0) = .ref 0 ∧ ∀ a, narrow (pw_Y3 0) (.ref a) = .ref a ∧ fits (pw_Y3 0) (.ref a) = true := ⟨rfl, fun _ => ⟨rfl, rfl⟩⟩
theorem mty_4_0 : narrow (pw_Y4 0) (.ref 0) = .ref 0 ∧ ∀ a, narrow (pw_Y4 0) (.ref a) = .ref a ∧ fits (pw_Y4 0) (.ref a) = true := ⟨rfl, fun _ => ⟨rfl, rfl⟩⟩
theorem mty_5_0 : narrow (pw_Y5 0) (.ref 0) = .ref 0 ∧ ∀ a, narrow (pw_Y5 0) (.ref a) = .ref a ∧ fits (pw_Y5 0) (.ref a) = true := ⟨rfl, fun _ => ⟨rfl, rfl⟩⟩
theorem mty_5_1 : narrow (pw_Y5 1) (.ref 0) = .ref 0 ∧ ∀ a, narrow (pw_Y5 1) (.ref a) = .ref a ∧ fits (pw_Y5 1) (.ref a) = true := ⟨rfl, fun _ => ⟨rfl, rfl⟩⟩
theorem mty_5_2 : narrow (pw_Y5 2) (.ref 0) = .ref 0 ∧ ∀ a, narrow (pw_Y5 2) (.ref a) = .ref a ∧ fits (pw_Y5 2) (.ref a) = true := ⟨rfl, fun _ => ⟨rfl, rfl⟩⟩
theorem mty_6_0 : narrow (pw_Y6 0) (.ref 0) = .ref 0 ∧ ∀ a, narrow (pw_Y6 0) (.ref a) = .ref a ∧ fits (pw_Y6 0) (.ref a) = true := ⟨rfl, fun _ => ⟨rfl, rfl⟩⟩
theorem mty_6_1 : narrow (pw_Y6 1) (.ref 0) = .ref 0 ∧ ∀ a, narrow (pw_Y6 1) (.ref a) = .ref a ∧ fits (pw_Y6 1) (.ref a) = true := ⟨rfl, fun _ => ⟨rfl, rfl⟩⟩
theorem mty_7_1 : narrow (pw_Y7 1) (.ref 0) = .ref 0 ∧ ∀ a, narrow (pw_Y7 1) (.ref a) = .ref a ∧ fits (pw_Y7 1) (.ref a) = true := ⟨rfl, fun _ => ⟨rfl, rfl⟩⟩
theorem mty_7_3 : narrow (pw_Y7 3) (.ref 0) = .ref 0 ∧ ∀ a, narrow (pw_Y7 3) (.ref a) = .ref a ∧ fits (pw_Y7 3) (.ref a) = true := ⟨rfl, fun _ => ⟨rfl, rfl⟩⟩
theorem mty_7_4 : narrow (pw_Y7 4) (.ref 0) = .ref 0 ∧ ∀ a, narrow (pw_Y7 4) (.ref a) = .ref a ∧ fits (pw_Y7 4) (.ref a) = true := ⟨rfl, fun _ => ⟨rfl, rfl⟩⟩
theorem mty_8_0 : narrow (pw_Y8 0) (.ref 0) = .ref 0 ∧ ∀ a, narrow (pw_Y8 0) (.ref a) = .ref a ∧ fits (pw_Y8 0) (.ref a) = true := ⟨rfl, fun _ => ⟨rfl, rfl⟩⟩
theorem mty_9_0 : narrow (pw_Y9 0) (.ref 0) = .ref 0 ∧ ∀ a, narrow (pw_Y9 0) (.ref a) = .ref a ∧ fits (pw_Y9 0) (.ref a) = true := ⟨rfl, fun _ => ⟨rfl, rfl⟩⟩
theorem mty_9_1 : narrow (pw_Y9 1) (.ref 0) = .ref 0 ∧ ∀ a, narrow (pw_Y9 1) (.ref a) = .ref a ∧ fits (pw_Y9 1) (.ref a) = true := ⟨rfl, fun _ => ⟨rfl, rfl⟩⟩
theorem mty_9_2 : narrow (pw_Y9 2) (.ref 0) = .ref 0 ∧ ∀ a, narrow (pw_Y9 2) (.ref a) = .ref a ∧ fits (pw_Y9 2) (.ref a) = true := ⟨rfl, fun _ => ⟨rfl, rfl⟩⟩
theorem mty_9_3 : narrow (pw_Y9 3) (.ref 0) = .ref 0 ∧ ∀ a, narrow (pw_Y9 3) (.ref a) = .ref a ∧ fits (pw_Y9 3) (.ref a) = true := ⟨rfl, fun _ => ⟨rfl, rfl⟩⟩
theorem mty_9_4 : narrow (pw_Y9 4) (.ref 0) = .ref 0 ∧ ∀ a, narrow (pw_Y9 4) (.ref a) = .ref a ∧ fits (pw_Y9 4) (.ref a) = true := ⟨rfl, fun _ => ⟨rfl, rfl⟩⟩
theorem mty_9_5 : narrow (pw_Y9 5) (.ref 0) = .ref 0 ∧ ∀ a, narrow (pw_Y9 5) (.ref a) = .ref a ∧ fits (pw_Y9 5) (.ref a) = true := ⟨rfl, fun _ => ⟨rfl, rfl⟩⟩
theorem mty_9_6 : narrow (pw_Y9 6) (.ref 0) = .ref 0 ∧ ∀ a, narrow (pw_Y9 6) (.ref a) = .ref a ∧ fits (pw_Y9 6) (.ref a) = true := ⟨rfl, fun _ => ⟨rfl, rfl⟩⟩
theorem mty_9_7 : narrow (pw_Y9 7) (.ref 0) = .ref 0 ∧ ∀ a, narrow (pw_Y9 7) (.ref a) = .ref a ∧ fits (pw_Y9 7) (.ref a) = true := ⟨rfl, fun _ => ⟨rfl, rfl⟩⟩
theorem mty_9_8 : narrow (pw_Y9 8) (.ref 0) = .ref 0 ∧ ∀ a, narrow (pw_Y9 8) (.ref a) = .ref a ∧ fits (pw_Y9 8) (.ref a) = true := ⟨rfl, fun _ => ⟨rfl, rfl⟩⟩
theorem mty_9_9 : narrow (pw_Y9 9) (.ref 0) = .ref 0 ∧ ∀ a, narrow (pw_Y9 9) (.ref a) = .ref a ∧ fits (pw_Y9 9) (.ref a) = true := ⟨rfl, fun _ => ⟨rfl, rfl⟩⟩
theorem mty_9_10 : narrow (pw_Y9 10) (.ref 0) = .ref 0 ∧ ∀ a, narrow (pw_Y9 10) (.ref a) = .ref a ∧ fits (pw_Y9 10) (.ref a) = true := ⟨rfl, fun _ => ⟨rfl, rfl⟩⟩
theorem mty_10_0 : narrow (pw_Y10 0) (.ref 0) = .ref 0 ∧ ∀ a, narrow (pw_Y10 0) (.ref a) = .ref a ∧ fits (pw_Y10 0) (.ref a) = true := ⟨rfl, fun _ => ⟨rfl, rfl⟩⟩
theorem mty_10_1 : narrow (pw_Y10 1) (.ref 0) = .ref 0 ∧ ∀ a, narrow (pw_Y10 1) (.ref a) = .ref a ∧ fits (pw_Y10 1) (.ref a) = true := ⟨rfl, fun _ => ⟨rfl, rfl⟩⟩
theorem mty_10_3 : narrow (pw_Y10 3) (.ref 0) = .ref 0 ∧ ∀ a, narrow (pw_Y10 3) (.ref a) = .ref a ∧ fits (pw_Y10 3) (.ref a) = true := ⟨rfl, fun _ => ⟨rfl, rfl⟩⟩
theorem mty_10_4 : narrow (pw_Y10 4) (.ref 0) = .ref 0 ∧ ∀ a, narrow (pw_Y10 4) (.ref a) = .ref a ∧ fits (pw_Y10 4) (.ref a) = true := ⟨rfl, fun _ => ⟨rfl, rfl⟩⟩
theorem mty_10_6 : narrow (pw_Y10 6) (.ref 0) = .ref 0 ∧ ∀ a, narrow (pw_Y10 6) (.ref a) = .ref a ∧ fits (pw_Y10 6) (.ref a) = true := ⟨rfl, fun _ => ⟨rfl, rfl⟩⟩
theorem mty_10_7 : narrow (pw_Y10 7) (.ref 0) = .ref 0 ∧ ∀ a, narrow (pw_Y10 7) (.ref a) = .ref a ∧ fits (pw_Y10 7) (.ref a) = true := ⟨rfl, fun _ => ⟨rfl, rfl⟩⟩
theorem mty_10_8 : narrow (pw_Y10 8) (.ref 0) = .ref 0 ∧ ∀ a, narrow (pw_Y10 8) (.ref a) = .ref a ∧ fits (pw_Y10 8) (.ref a) = true := ⟨rfl, fun _ => ⟨rfl, rfl⟩⟩
theorem mty_10_10 : narrow (pw_Y10 10) (.ref 0) = .ref 0 ∧ ∀ a, narrow (pw_Y10 10) (.ref a) = .ref a ∧ fits (pw_Y10 10) (.ref a) = true := ⟨rfl, fun _ => ⟨rfl, rfl⟩⟩
theorem mty_10_11 : narrow (pw_Y10 11) (.ref 0) = .ref 0 ∧ ∀ a, narrow (pw_Y10 11) (.ref a) = .ref a ∧ fits (pw_Y10 11) (.ref a) = true := ⟨rfl, fun _ => ⟨rfl, rfl⟩⟩
theorem mty_10_12 : narrow (pw_Y10 12) (.ref 0) = .ref 0 ∧ ∀ a, narrow (pw_Y10 12) (.ref a) = .ref a ∧ fits (pw_Y10 12) (.ref a) = true := ⟨rfl, fun _ => ⟨rfl, rfl⟩⟩
theorem mty_10_13 : narrow (pw_Y10 13) (.ref 0) = .ref 0 ∧ ∀ a, narrow (pw_Y10 13) (.ref a) = .ref a ∧ fits (pw_Y10 13) (.ref a) = true := ⟨rfl, fun _ => ⟨rfl, rfl⟩⟩
theorem mty_10_14 : narrow (pw_Y10 14) (.ref 0) = .ref 0 ∧ ∀ a, narrow (pw_Y10 14) (.ref a) = .ref a ∧ fits (pw_Y10 14) (.ref a) = true := ⟨rfl, fun _ => ⟨rfl, rfl⟩⟩
theorem mty_10_15 : narrow (pw_Y10 15) (.ref 0) = .ref 0 ∧ ∀ a, narrow (pw_Y10 15) (.ref a) = .ref a ∧ fits (pw_Y10 15) (.ref a) = true := ⟨rfl, fun _ => ⟨rfl, rfl⟩⟩
theorem mty_10_16 : narrow (pw_Y10 16) (.ref 0) = .ref 0 ∧ ∀ a, narrow (pw_Y10 16) (.ref a) = .ref a ∧ fits (pw_Y10 16) (.ref a) = true := ⟨rfl, fun _ => ⟨rfl, rfl⟩⟩
theorem mty_10_17 : narrow (pw_Y10 17) (.ref 0) = .ref 0 ∧ ∀ a, narrow (pw_Y10 17) (.ref a) = .ref a ∧ fits (pw_Y10 17) (.ref a) = true := ⟨rfl, fun _ => ⟨rfl, rfl⟩⟩
theorem mty_10_18 : narrow (pw_Y10 18) (.ref 0) = .ref 0 ∧ ∀ a, narrow (pw_Y10 18) (.ref a) = .ref a ∧ fits (pw_Y10 18) (.ref a) = true := ⟨rfl, fun _ => ⟨rfl, rfl⟩⟩
theorem mty_10_19 : narrow (pw_Y10 19) (.ref 0) = .ref 0 ∧ ∀ a, narrow (pw_Y10 19) (.ref a) = .ref a ∧ fits (pw_Y10 19) (.ref a) = true := ⟨rfl, fun _ => ⟨rfl, rfl⟩⟩
theorem mk_Z_init : pw_Cal my_Z_init prog_11_method_1_code 1 none 0 := ⟨mq_96, mq_70, by decide +kernel⟩
theorem mk_H_init : pw_Cal my_H_init prog_6_method_1_code 2 none 0 := ⟨mq_130, mq_71, by decide +kernel⟩
theorem mk_T_init : pw_Cal my_T_init prog_5_method_1_code 1 none 0 := ⟨mq_150, mq_72, by decide +kernel⟩
theorem mk_P_init : pw_Cal my_P_init prog_7_method_1_code 1 none 0 := ⟨mq_185, mq_74, by decide +kernel⟩
theorem mk_E_init : pw_Cal my_E_init prog_2_method_1_code 1 none 0 := ⟨mq_179, mq_73, by decide +kernel⟩
theorem mk_R_init : pw_Cal my_R_init prog_4_method_1_code 1 none 0 := ⟨mq_226, mq_75, by decide +kernel⟩
theorem mk_D_init : pw_Cal my_D_init prog_12_method_1_code 1 none 0 := ⟨mq_243, mq_76, by decide +kernel⟩
theorem mk_Q_init : pw_Cal my_Q_init prog_9_method_1_code 1 none 0 := ⟨mq_254, mq_77, by decide +kernel⟩
theorem mk_B_init : pw_Cal my_B_init prog_8_method_1_code 1 none 0 := ⟨mq_267, mq_78, by decide +kernel⟩
theorem mk_W_init : pw_Cal my_W_init prog_1_method_1_code 1 none 0 := ⟨mq_88, mq_69, by decide +kernel⟩
theorem mk_W_isPrime : pw_Cal my_W_isPrime prog_1_method_44_code 2 (some .boolean) 1 := ⟨mq_324, mq_69, by decide +kernel⟩
theorem mk_W_fail : pw_Cal my_W_fail prog_1_method_37_code 3 (some .int) 1 := ⟨mq_328, mq_69, by decide +kernel⟩
theorem mv_W_fail : pw_CalV my_W_fail := ⟨mq_327, mq_0⟩
theorem mk_Z_copyFrom : pw_Cal my_Z_copyFrom prog_11_method_2_code 3 none 1 := ⟨mq_336, mq_70, by decide +kernel⟩
theorem mv_Z_copyFrom : pw_CalV my_Z_copyFrom := ⟨mq_334, mq_335⟩
theorem mk_H_keep : pw_Cal my_H_keep prog_6_method_2_code 2 none 1 := ⟨mq_332, mq_71, by decide +kernel⟩
theorem mv_H_keep : pw_CalV my_H_keep := ⟨mq_330, mq_331⟩
theorem mk_A_fill : pw_Cal my_A_fill prog_16_method_103_code 4 none 2 := ⟨mq_346, mq_81, by decide +kernel⟩
theorem mk_Z_restart : pw_Cal my_Z_restart prog_11_method_3_code 3 none 1 := ⟨mq_343, mq_70, by decide +kernel⟩
theorem mv_Z_restart : pw_CalV my_Z_restart := ⟨mq_341, mq_342⟩
theorem mk_W_setPrime : pw_Cal my_W_setPrime prog_1_method_2_code 3 (some .int) 1 := ⟨mq_321, mq_69, by decide +kernel⟩
theorem mv_W_setPrime : pw_CalV my_W_setPrime := ⟨mq_319, mq_320⟩
theorem mk_W_isSlot : pw_Cal my_W_isSlot prog_1_method_38_code 1 (some .boolean) 1 := ⟨mq_353, mq_69, by decide +kernel⟩
theorem mk_W_isTerm : pw_Cal my_W_isTerm prog_1_method_39_code 1 (some .boolean) 1 := ⟨mq_356, mq_69, by decide +kernel⟩
theorem mk_W_isElement : pw_Cal my_W_isElement prog_1_method_40_code 2 (some .boolean) 1 := ⟨mq_360, mq_69, by decide +kernel⟩
theorem mv_W_isElement : pw_CalV my_W_isElement := ⟨mq_359, mq_1⟩
theorem mk_W_set : pw_Cal my_W_set prog_1_method_3_code 5 (some .int) 3 := ⟨mq_350, mq_69, by decide +kernel⟩
theorem mv_W_set : pw_CalV my_W_set := ⟨mq_348, mq_349⟩
theorem mk_W_coefficient : pw_Cal my_W_coefficient prog_1_method_4_code 3 (some .int) 2 := ⟨mq_364, mq_69, by decide +kernel⟩
theorem mv_W_coefficient : pw_CalV my_W_coefficient := ⟨mq_362, mq_363⟩
theorem mk_K_reduce : pw_Cal my_K_reduce prog_3_method_2_code 2 (some .int) 2 := ⟨mq_374, mq_83, by decide +kernel⟩
theorem mk_S_sum : pw_Cal my_S_sum prog_10_method_2_code 5 none 4 := ⟨mq_371, mq_82, by decide +kernel⟩
theorem mk_S_countOfNonZero : pw_Cal my_S_countOfNonZero prog_10_method_6_code 3 (some .int) 1 := ⟨mq_382, mq_82, by decide +kernel⟩
theorem mk_W_store : pw_Cal my_W_store prog_1_method_45_code 2 (some .int) 1 := ⟨mq_378, mq_69, by decide +kernel⟩
theorem mv_W_store : pw_CalV my_W_store := ⟨mq_377, mq_2⟩
theorem mk_W_add : pw_Cal my_W_add prog_1_method_5_code 4 (some .int) 3 := ⟨mq_368, mq_69, by decide +kernel⟩
theorem mv_W_add : pw_CalV my_W_add := ⟨mq_366, mq_367⟩
theorem mk_S_product : pw_Cal my_S_product prog_10_method_3_code 7 none 4 := ⟨mq_389, mq_82, by decide +kernel⟩
theorem mk_W_multiply : pw_Cal my_W_multiply prog_1_method_6_code 4 (some .int) 3 := ⟨mq_386, mq_69, by decide +kernel⟩
theorem mv_W_multiply : pw_CalV my_W_multiply := ⟨mq_384, mq_385⟩
theorem mk_K_inverse : pw_Cal my_K_inverse prog_3_method_5_code 5 (some .int) 2 := ⟨mq_399, mq_83, by decide +kernel⟩
theorem mk_K_times : pw_Cal my_K_times prog_3_method_4_code 3 (some .int) 3 := ⟨mq_403, mq_83, by decide +kernel⟩
theorem mk_K_negative : pw_Cal my_K_negative prog_3_method_3_code 2 (some .int) 2 := ⟨mq_406, mq_83, by decide +kernel⟩
theorem mk_S_reciprocal : pw_Cal my_S_reciprocal prog_10_method_4_code 7 none 3 := ⟨mq_396, mq_82, by decide +kernel⟩
theorem mk_W_invert : pw_Cal my_W_invert prog_1_method_7_code 3 (some .int) 2 := ⟨mq_393, mq_69, by decide +kernel⟩
theorem mv_W_invert : pw_CalV my_W_invert := ⟨mq_391, mq_392⟩
theorem mk_W_composeIntoResult : pw_Cal my_W_composeIntoResult prog_1_method_46_code 4 none 2 := ⟨mq_414, mq_69, by decide +kernel⟩
theorem mv_W_composeIntoResult : pw_CalV my_W_composeIntoResult := ⟨mq_413, mq_3⟩
theorem mk_W_substitute : pw_Cal my_W_substitute prog_1_method_8_code 4 (some .int) 3 := ⟨mq_410, mq_69, by decide +kernel⟩
theorem mv_W_substitute : pw_CalV my_W_substitute := ⟨mq_408, mq_409⟩
theorem mk_S_slope : pw_Cal my_S_slope prog_10_method_5_code 4 none 3 := ⟨mq_423, mq_82, by decide +kernel⟩
theorem mk_W_derivative : pw_Cal my_W_derivative prog_1_method_9_code 3 (some .int) 2 := ⟨mq_420, mq_69, by decide +kernel⟩
theorem mv_W_derivative : pw_CalV my_W_derivative := ⟨mq_418, mq_419⟩
theorem mk_T_put : pw_Cal my_T_put prog_5_method_2_code 2 none 1 := ⟨mq_431, mq_72, by decide +kernel⟩
theorem mv_T_put : pw_CalV my_T_put := ⟨mq_429, mq_430⟩
theorem mk_W_append : pw_Cal my_W_append prog_1_method_10_code 2 (some .int) 1 := ⟨mq_427, mq_69, by decide +kernel⟩
theorem mv_W_append : pw_CalV my_W_append := ⟨mq_425, mq_426⟩
theorem mk_W_clearText : pw_Cal my_W_clearText prog_1_method_11_code 2 (some .int) 0 := ⟨mq_435, mq_69, by decide +kernel⟩
theorem mv_W_clearText : pw_CalV my_W_clearText := ⟨mq_433, mq_434⟩
theorem mk_T_here : pw_Cal my_T_here prog_5_method_10_code 1 (some .int) 0 := ⟨mq_460, mq_72, by decide +kernel⟩
theorem mv_T_here : pw_CalV my_T_here := ⟨mq_459, mq_7⟩
theorem mk_T_peek : pw_Cal my_T_peek prog_5_method_9_code 1 (some .int) 0 := ⟨mq_456, mq_72, by decide +kernel⟩
theorem mv_T_peek : pw_CalV my_T_peek := ⟨mq_455, mq_6⟩
theorem mk_T_took : pw_Cal my_T_took prog_5_method_8_code 2 (some .boolean) 1 := ⟨mq_452, mq_72, by decide +kernel⟩
theorem mv_T_took : pw_CalV my_T_took := ⟨mq_451, mq_5⟩
theorem mk_T_isDigit : pw_Cal my_T_isDigit prog_5_method_11_code 1 (some .boolean) 1 := ⟨mq_467, mq_72, by decide +kernel⟩
theorem mk_T_readNumber : pw_Cal my_T_readNumber prog_5_method_6_code 3 (some .int) 0 := ⟨mq_471, mq_72, by decide +kernel⟩
theorem mv_T_readNumber : pw_CalV my_T_readNumber := ⟨mq_470, mq_9⟩
theorem mk_T_readExponent : pw_Cal my_T_readExponent prog_5_method_7_code 3 (some .int) 0 := ⟨mq_475, mq_72, by decide +kernel⟩
theorem mv_T_readExponent : pw_CalV my_T_readExponent := ⟨mq_474, mq_10⟩
theorem mk_T_readTerm : pw_Cal my_T_readTerm prog_5_method_5_code 7 (some .boolean) 2 := ⟨mq_464, mq_72, by decide +kernel⟩
theorem mv_T_readTerm : pw_CalV my_T_readTerm := ⟨mq_463, mq_8⟩
theorem mk_T_readPolynomial : pw_Cal my_T_readPolynomial prog_5_method_4_code 4 (some .boolean) 1 := ⟨mq_448, mq_72, by decide +kernel⟩
theorem mv_T_readPolynomial : pw_CalV my_T_readPolynomial := ⟨mq_447, mq_4⟩
theorem mk_T_readFraction : pw_Cal my_T_readFraction prog_5_method_3_code 2 (some .boolean) 1 := ⟨mq_443, mq_72, by decide +kernel⟩
theorem mv_T_readFraction : pw_CalV my_T_readFraction := ⟨mq_441, mq_442⟩
theorem mk_W_parse : pw_Cal my_W_parse prog_1_method_12_code 2 (some .int) 1 := ⟨mq_439, mq_69, by decide +kernel⟩
theorem mv_W_parse : pw_CalV my_W_parse := ⟨mq_437, mq_438⟩
theorem mk_W_isApproximant : pw_Cal my_W_isApproximant prog_1_method_41_code 3 (some .boolean) 3 := ⟨mq_483, mq_69, by decide +kernel⟩
theorem mk_P_becomeZero : pw_Cal my_P_becomeZero prog_7_method_2_code 1 none 0 := ⟨mq_499, mq_74, by decide +kernel⟩
theorem mv_P_becomeZero : pw_CalV my_P_becomeZero := ⟨mq_497, mq_498⟩
theorem mk_P_becomePower : pw_Cal my_P_becomePower prog_7_method_3_code 2 none 1 := ⟨mq_495, mq_74, by decide +kernel⟩
theorem mv_P_becomePower : pw_CalV my_P_becomePower := ⟨mq_493, mq_494⟩
theorem mk_P_measure : pw_Cal my_P_measure prog_7_method_6_code 1 none 0 := ⟨mq_508, mq_74, by decide +kernel⟩
theorem mv_P_measure : pw_CalV my_P_measure := ⟨mq_506, mq_507⟩
theorem mk_P_becomeStart : pw_Cal my_P_becomeStart prog_7_method_4_code 4 none 2 := ⟨mq_504, mq_74, by decide +kernel⟩
theorem mv_P_becomeStart : pw_CalV my_P_becomeStart := ⟨mq_502, mq_503⟩
theorem mk_E_startCofactors : pw_Cal my_E_startCofactors prog_2_method_4_code 1 none 0 := ⟨mq_512, mq_73, by decide +kernel⟩
theorem mv_E_startCofactors : pw_CalV my_E_startCofactors := ⟨mq_511, mq_12⟩
theorem mk_E_startWithSeries : pw_Cal my_E_startWithSeries prog_2_method_2_code 4 none 3 := ⟨mq_491, mq_73, by decide +kernel⟩
theorem mv_E_startWithSeries : pw_CalV my_E_startWithSeries := ⟨mq_489, mq_490⟩
theorem mk_P_gather : pw_Cal my_P_gather prog_7_method_8_code 6 none 4 := ⟨mq_528, mq_74, by decide +kernel⟩
theorem mv_P_gather : pw_CalV my_P_gather := ⟨mq_526, mq_527⟩
theorem mk_E_divide : pw_Cal my_E_divide prog_2_method_6_code 4 none 0 := ⟨mq_521, mq_73, by decide +kernel⟩
theorem mv_E_divide : pw_CalV my_E_divide := ⟨mq_519, mq_520⟩
theorem mk_E_followWithCofactors : pw_Cal my_E_followWithCofactors prog_2_method_7_code 3 none 0 := ⟨mq_534, mq_73, by decide +kernel⟩
theorem mv_E_followWithCofactors : pw_CalV my_E_followWithCofactors := ⟨mq_533, mq_13⟩
theorem mk_E_runDownTo : pw_Cal my_E_runDownTo prog_2_method_5_code 3 none 1 := ⟨mq_517, mq_73, by decide +kernel⟩
theorem mv_E_runDownTo : pw_CalV my_E_runDownTo := ⟨mq_515, mq_516⟩
theorem mk_P_copyFrom : pw_Cal my_P_copyFrom prog_7_method_5_code 2 none 1 := ⟨mq_542, mq_74, by decide +kernel⟩
theorem mv_P_copyFrom : pw_CalV my_P_copyFrom := ⟨mq_540, mq_541⟩
theorem mk_R_take : pw_Cal my_R_take prog_4_method_2_code 3 none 2 := ⟨mq_538, mq_75, by decide +kernel⟩
theorem mv_R_take : pw_CalV my_R_take := ⟨mq_536, mq_537⟩
theorem mk_P_valueAt : pw_Cal my_P_valueAt prog_7_method_7_code 5 (some .int) 2 := ⟨mq_552, mq_74, by decide +kernel⟩
theorem mv_P_valueAt : pw_CalV my_P_valueAt := ⟨mq_550, mq_551⟩
theorem mk_P_divideByRoot : pw_Cal my_P_divideByRoot prog_7_method_11_code 6 none 2 := ⟨mq_556, mq_74, by decide +kernel⟩
theorem mv_P_divideByRoot : pw_CalV my_P_divideByRoot := ⟨mq_554, mq_555⟩
theorem mk_R_cancelRoot : pw_Cal my_R_cancelRoot prog_4_method_3_code 4 none 2 := ⟨mq_548, mq_75, by decide +kernel⟩
theorem mv_R_cancelRoot : pw_CalV my_R_cancelRoot := ⟨mq_546, mq_547⟩
theorem mk_P_lowest : pw_Cal my_P_lowest prog_7_method_12_code 2 (some .int) 0 := ⟨mq_564, mq_74, by decide +kernel⟩
theorem mv_P_lowest : pw_CalV my_P_lowest := ⟨mq_562, mq_563⟩
theorem mk_P_scaleBy : pw_Cal my_P_scaleBy prog_7_method_9_code 4 none 2 := ⟨mq_569, mq_74, by decide +kernel⟩
theorem mv_P_scaleBy : pw_CalV my_P_scaleBy := ⟨mq_567, mq_568⟩
theorem mk_R_scale : pw_Cal my_R_scale prog_4_method_4_code 3 none 1 := ⟨mq_560, mq_75, by decide +kernel⟩
theorem mv_R_scale : pw_CalV my_R_scale := ⟨mq_558, mq_559⟩
theorem mk_W_approximate : pw_Cal my_W_approximate prog_1_method_47_code 4 none 3 := ⟨mq_487, mq_69, by decide +kernel⟩
theorem mv_W_approximate : pw_CalV my_W_approximate := ⟨mq_486, mq_11⟩
theorem mk_W_numeratorDegree : pw_Cal my_W_numeratorDegree prog_1_method_13_code 4 (some .int) 3 := ⟨mq_480, mq_69, by decide +kernel⟩
theorem mv_W_numeratorDegree : pw_CalV my_W_numeratorDegree := ⟨mq_478, mq_479⟩
theorem mk_W_denominatorDegree : pw_Cal my_W_denominatorDegree prog_1_method_14_code 4 (some .int) 3 := ⟨mq_574, mq_69, by decide +kernel⟩
theorem mv_W_denominatorDegree : pw_CalV my_W_denominatorDegree := ⟨mq_572, mq_573⟩
theorem mk_W_numerator : pw_Cal my_W_numerator prog_1_method_15_code 5 (some .int) 4 := ⟨mq_578, mq_69, by decide +kernel⟩
theorem mv_W_numerator : pw_CalV my_W_numerator := ⟨mq_576, mq_577⟩
theorem mk_W_denominator : pw_Cal my_W_denominator prog_1_method_16_code 5 (some .int) 4 := ⟨mq_582, mq_69, by decide +kernel⟩
theorem mv_W_denominator : pw_CalV my_W_denominator := ⟨mq_580, mq_581⟩
theorem mk_R_agreement : pw_Cal my_R_agreement prog_4_method_5_code 6 (some .int) 2 := ⟨mq_590, mq_75, by decide +kernel⟩
theorem mv_R_agreement : pw_CalV my_R_agreement := ⟨mq_588, mq_589⟩
theorem mk_W_order : pw_Cal my_W_order prog_1_method_17_code 4 (some .int) 3 := ⟨mq_586, mq_69, by decide +kernel⟩
theorem mv_W_order : pw_CalV my_W_order := ⟨mq_584, mq_585⟩
theorem mk_R_block : pw_Cal my_R_block prog_4_method_6_code 2 (some .int) 1 := ⟨mq_599, mq_75, by decide +kernel⟩
theorem mv_R_block : pw_CalV my_R_block := ⟨mq_597, mq_598⟩
theorem mk_W_blockSize : pw_Cal my_W_blockSize prog_1_method_18_code 4 (some .int) 3 := ⟨mq_595, mq_69, by decide +kernel⟩
theorem mv_W_blockSize : pw_CalV my_W_blockSize := ⟨mq_593, mq_594⟩
theorem mk_K_over : pw_Cal my_K_over prog_3_method_6_code 3 (some .int) 3 := ⟨mq_607, mq_83, by decide +kernel⟩
theorem mk_W_evaluate : pw_Cal my_W_evaluate prog_1_method_19_code 6 (some .int) 4 := ⟨mq_603, mq_69, by decide +kernel⟩
theorem mv_W_evaluate : pw_CalV my_W_evaluate := ⟨mq_601, mq_602⟩
theorem mk_W_normalCount : pw_Cal my_W_normalCount prog_1_method_20_code 5 (some .int) 2 := ⟨mq_613, mq_69, by decide +kernel⟩
theorem mv_W_normalCount : pw_CalV my_W_normalCount := ⟨mq_611, mq_612⟩
theorem mk_D_fill : pw_Cal my_D_fill prog_12_method_3_code 7 none 3 := ⟨mq_625, mq_76, by decide +kernel⟩
theorem mv_D_fill : pw_CalV my_D_fill := ⟨mq_624, mq_14⟩
theorem mk_D_pivotRow : pw_Cal my_D_pivotRow prog_12_method_4_code 4 (some .int) 2 := ⟨mq_630, mq_76, by decide +kernel⟩
theorem mv_D_pivotRow : pw_CalV my_D_pivotRow := ⟨mq_629, mq_15⟩
theorem mk_D_swapRows : pw_Cal my_D_swapRows prog_12_method_5_code 5 none 2 := ⟨mq_634, mq_76, by decide +kernel⟩
theorem mv_D_swapRows : pw_CalV my_D_swapRows := ⟨mq_633, mq_16⟩
theorem mk_D_clearBelow : pw_Cal my_D_clearBelow prog_12_method_6_code 8 none 3 := ⟨mq_640, mq_76, by decide +kernel⟩
theorem mv_D_clearBelow : pw_CalV my_D_clearBelow := ⟨mq_639, mq_17⟩
theorem mk_D_valueOf : pw_Cal my_D_valueOf prog_12_method_2_code 8 (some .int) 4 := ⟨mq_621, mq_76, by decide +kernel⟩
theorem mv_D_valueOf : pw_CalV my_D_valueOf := ⟨mq_619, mq_620⟩
theorem mk_W_determinant : pw_Cal my_W_determinant prog_1_method_21_code 4 (some .int) 3 := ⟨mq_617, mq_69, by decide +kernel⟩
theorem mv_W_determinant : pw_CalV my_W_determinant := ⟨mq_615, mq_616⟩
theorem mk_W_isSchemePlace : pw_Cal my_W_isSchemePlace prog_1_method_42_code 3 (some .boolean) 3 := ⟨mq_649, mq_69, by decide +kernel⟩
theorem mk_Q_ratio : pw_Cal my_Q_ratio prog_9_method_6_code 3 (some .int) 3 := ⟨mq_661, mq_77, by decide +kernel⟩
theorem mk_Q_firstColumns : pw_Cal my_Q_firstColumns prog_9_method_3_code 4 none 2 := ⟨mq_657, mq_77, by decide +kernel⟩
theorem mv_Q_firstColumns : pw_CalV my_Q_firstColumns := ⟨mq_656, mq_18⟩
theorem mk_Q_nextE : pw_Cal my_Q_nextE prog_9_method_4_code 4 none 1 := ⟨mq_666, mq_77, by decide +kernel⟩
theorem mv_Q_nextE : pw_CalV my_Q_nextE := ⟨mq_665, mq_19⟩
theorem mk_Q_nextQ : pw_Cal my_Q_nextQ prog_9_method_5_code 4 none 1 := ⟨mq_671, mq_77, by decide +kernel⟩
theorem mv_Q_nextQ : pw_CalV my_Q_nextQ := ⟨mq_670, mq_20⟩
theorem mk_Q_number : pw_Cal my_Q_number prog_9_method_2_code 7 (some .int) 5 := ⟨mq_653, mq_77, by decide +kernel⟩
theorem mv_Q_number : pw_CalV my_Q_number := ⟨mq_651, mq_652⟩
theorem mk_W_quotientDifference : pw_Cal my_W_quotientDifference prog_1_method_22_code 5 (some .int) 4 := ⟨mq_646, mq_69, by decide +kernel⟩
theorem mv_W_quotientDifference : pw_CalV my_W_quotientDifference := ⟨mq_644, mq_645⟩
theorem mk_W_quotientCount : pw_Cal my_W_quotientCount prog_1_method_23_code 4 (some .int) 2 := ⟨mq_676, mq_69, by decide +kernel⟩
theorem mv_W_quotientCount : pw_CalV my_W_quotientCount := ⟨mq_674, mq_675⟩
theorem mk_W_quotient : pw_Cal my_W_quotient prog_1_method_24_code 6 (some .int) 4 := ⟨mq_681, mq_69, by decide +kernel⟩
theorem mv_W_quotient : pw_CalV my_W_quotient := ⟨mq_679, mq_680⟩
theorem mk_B_gapAt : pw_Cal my_B_gapAt prog_8_method_3_code 6 (some .int) 3 := ⟨mq_694, mq_78, by decide +kernel⟩
theorem mv_B_gapAt : pw_CalV my_B_gapAt := ⟨mq_693, mq_21⟩
theorem mk_B_correct : pw_Cal my_B_correct prog_8_method_4_code 6 none 3 := ⟨mq_700, mq_78, by decide +kernel⟩
theorem mv_B_correct : pw_CalV my_B_correct := ⟨mq_699, mq_22⟩
theorem mk_B_keepOlder : pw_Cal my_B_keepOlder prog_8_method_5_code 2 none 0 := ⟨mq_705, mq_78, by decide +kernel⟩
theorem mv_B_keepOlder : pw_CalV my_B_keepOlder := ⟨mq_704, mq_23⟩
theorem mk_B_fit : pw_Cal my_B_fit prog_8_method_2_code 8 none 3 := ⟨mq_689, mq_78, by decide +kernel⟩
theorem mv_B_fit : pw_CalV my_B_fit := ⟨mq_687, mq_688⟩
theorem mk_W_complexity : pw_Cal my_W_complexity prog_1_method_25_code 3 (some .int) 2 := ⟨mq_685, mq_69, by decide +kernel⟩
theorem mv_W_complexity : pw_CalV my_W_complexity := ⟨mq_683, mq_684⟩
theorem mk_W_recurrence : pw_Cal my_W_recurrence prog_1_method_26_code 4 (some .int) 3 := ⟨mq_709, mq_69, by decide +kernel⟩
theorem mv_W_recurrence : pw_CalV my_W_recurrence := ⟨mq_707, mq_708⟩
theorem mk_Z_hasPointAt : pw_Cal my_Z_hasPointAt prog_11_method_4_code 3 (some .boolean) 1 := ⟨mq_718, mq_70, by decide +kernel⟩
theorem mv_Z_hasPointAt : pw_CalV my_Z_hasPointAt := ⟨mq_716, mq_717⟩
theorem mk_Z_putPoint : pw_Cal my_Z_putPoint prog_11_method_5_code 3 none 2 := ⟨mq_722, mq_70, by decide +kernel⟩
theorem mv_Z_putPoint : pw_CalV my_Z_putPoint := ⟨mq_720, mq_721⟩
theorem mk_W_addPoint : pw_Cal my_W_addPoint prog_1_method_27_code 3 (some .int) 2 := ⟨mq_714, mq_69, by decide +kernel⟩
theorem mv_W_addPoint : pw_CalV my_W_addPoint := ⟨mq_712, mq_713⟩
theorem mk_W_clearPoints : pw_Cal my_W_clearPoints prog_1_method_28_code 2 (some .int) 0 := ⟨mq_726, mq_69, by decide +kernel⟩
theorem mv_W_clearPoints : pw_CalV my_W_clearPoints := ⟨mq_724, mq_725⟩
theorem mk_W_isInterpolant : pw_Cal my_W_isInterpolant prog_1_method_43_code 2 (some .boolean) 1 := ⟨mq_734, mq_69, by decide +kernel⟩
theorem mv_W_isInterpolant : pw_CalV my_W_isInterpolant := ⟨mq_733, mq_24⟩
theorem mk_P_multiplyByRoot : pw_Cal my_P_multiplyByRoot prog_7_method_10_code 6 none 2 := ⟨mq_749, mq_74, by decide +kernel⟩
theorem mv_P_multiplyByRoot : pw_CalV my_P_multiplyByRoot := ⟨mq_747, mq_748⟩
theorem mk_E_startWithPoints : pw_Cal my_E_startWithPoints prog_2_method_3_code 6 none 1 := ⟨mq_742, mq_73, by decide +kernel⟩
theorem mv_E_startWithPoints : pw_CalV my_E_startWithPoints := ⟨mq_740, mq_741⟩
theorem mk_W_interpolate : pw_Cal my_W_interpolate prog_1_method_48_code 3 none 1 := ⟨mq_738, mq_69, by decide +kernel⟩
theorem mv_W_interpolate : pw_CalV my_W_interpolate := ⟨mq_737, mq_25⟩
theorem mk_W_interpolant : pw_Cal my_W_interpolant prog_1_method_29_code 4 (some .int) 3 := ⟨mq_730, mq_69, by decide +kernel⟩
theorem mv_W_interpolant : pw_CalV my_W_interpolant := ⟨mq_728, mq_729⟩
theorem mk_R_passes : pw_Cal my_R_passes prog_4_method_7_code 5 (some .boolean) 3 := ⟨mq_762, mq_75, by decide +kernel⟩
theorem mv_R_passes : pw_CalV my_R_passes := ⟨mq_760, mq_761⟩
theorem mk_W_missedPoints : pw_Cal my_W_missedPoints prog_1_method_49_code 3 (some .int) 0 := ⟨mq_758, mq_69, by decide +kernel⟩
theorem mv_W_missedPoints : pw_CalV my_W_missedPoints := ⟨mq_757, mq_26⟩
theorem mk_W_unattainable : pw_Cal my_W_unattainable prog_1_method_30_code 2 (some .int) 1 := ⟨mq_754, mq_69, by decide +kernel⟩
theorem mv_W_unattainable : pw_CalV my_W_unattainable := ⟨mq_752, mq_753⟩
theorem mk_H_giveBack : pw_Cal my_H_giveBack prog_6_method_3_code 2 none 1 := ⟨mq_771, mq_71, by decide +kernel⟩
theorem mv_H_giveBack : pw_CalV my_H_giveBack := ⟨mq_769, mq_770⟩
theorem mk_W_undo : pw_Cal my_W_undo prog_1_method_31_code 1 (some .int) 0 := ⟨mq_767, mq_69, by decide +kernel⟩
theorem mv_W_undo : pw_CalV my_W_undo := ⟨mq_765, mq_766⟩
theorem mk_W_errorCount : pw_Cal my_W_errorCount prog_1_method_32_code 2 (some .int) 1 := ⟨mq_775, mq_69, by decide +kernel⟩
theorem mv_W_errorCount : pw_CalV my_W_errorCount := ⟨mq_773, mq_774⟩
theorem mk_W_mix : pw_Cal my_W_mix prog_1_method_34_code 3 (some .long) 2 := ⟨mq_783, mq_69, by decide +kernel⟩
theorem mk_W_mixSeries : pw_Cal my_W_mixSeries prog_1_method_35_code 10 (some .long) 2 := ⟨mq_788, mq_69, by decide +kernel⟩
theorem mv_W_mixSeries : pw_CalV my_W_mixSeries := ⟨mq_787, mq_27⟩
theorem mk_W_mixPoints : pw_Cal my_W_mixPoints prog_1_method_36_code 6 (some .long) 1 := ⟨mq_792, mq_69, by decide +kernel⟩
theorem mv_W_mixPoints : pw_CalV my_W_mixPoints := ⟨mq_791, mq_28⟩
theorem mk_W_digest : pw_Cal my_W_digest prog_1_method_33_code 4 (some .long) 0 := ⟨mq_779, mq_69, by decide +kernel⟩
theorem mv_W_digest : pw_CalV my_W_digest := ⟨mq_777, mq_778⟩
theorem mk_M_init : pw_Cal my_M_init prog_14_method_1_code 1 none 0 := ⟨mq_797, mq_79, by decide +kernel⟩
theorem mk_M_in : pw_Cal my_M_in prog_14_method_2_code 3 (some .boolean) 3 := ⟨mq_869, mq_79, by decide +kernel⟩
theorem mk_M_fail : pw_Cal my_M_fail prog_14_method_3_code 2 (some .int) 1 := ⟨mq_873, mq_79, by decide +kernel⟩
theorem mv_M_fail : pw_CalV my_M_fail := ⟨mq_872, mq_29⟩
theorem mk_M_prime : pw_Cal my_M_prime prog_14_method_4_code 1 (some .int) 0 := ⟨mq_881, mq_79, by decide +kernel⟩
theorem mv_M_prime : pw_CalV my_M_prime := ⟨mq_880, mq_31⟩
theorem mk_M_mod : pw_Cal my_M_mod prog_14_method_5_code 3 (some .int) 1 := ⟨mq_904, mq_79, by decide +kernel⟩
theorem mv_M_mod : pw_CalV my_M_mod := ⟨mq_903, mq_33⟩
theorem mk_M_inverse : pw_Cal my_M_inverse prog_14_method_6_code 4 (some .int) 1 := ⟨mq_935, mq_79, by decide +kernel⟩
theorem mv_M_inverse : pw_CalV my_M_inverse := ⟨mq_934, mq_38⟩
theorem mk_M_isPrime : pw_Cal my_M_isPrime prog_14_method_7_code 3 (some .boolean) 1 := ⟨mq_866, mq_79, by decide +kernel⟩
theorem mk_M_isSlot : pw_Cal my_M_isSlot prog_14_method_8_code 1 (some .boolean) 1 := ⟨mq_888, mq_79, by decide +kernel⟩
theorem mk_M_term : pw_Cal my_M_term prog_14_method_9_code 3 (some .int) 2 := ⟨mq_892, mq_79, by decide +kernel⟩
theorem mv_M_term : pw_CalV my_M_term := ⟨mq_891, mq_32⟩
theorem mk_M_save : pw_Cal my_M_save prog_14_method_10_code 2 none 0 := ⟨mq_877, mq_79, by decide +kernel⟩
theorem mv_M_save : pw_CalV my_M_save := ⟨mq_876, mq_30⟩
theorem mk_M_setPrime : pw_Cal my_M_setPrime prog_14_method_11_code 4 (some .int) 1 := ⟨mq_863, mq_79, by decide +kernel⟩
theorem mv_M_setPrime : pw_CalV my_M_setPrime := ⟨mq_861, mq_862⟩
theorem mk_M_set : pw_Cal my_M_set prog_14_method_12_code 5 (some .int) 3 := ⟨mq_885, mq_79, by decide +kernel⟩
theorem mv_M_set : pw_CalV my_M_set := ⟨mq_883, mq_884⟩
theorem mk_M_coefficient : pw_Cal my_M_coefficient prog_14_method_13_code 3 (some .int) 2 := ⟨mq_896, mq_79, by decide +kernel⟩
theorem mv_M_coefficient : pw_CalV my_M_coefficient := ⟨mq_894, mq_895⟩
theorem mk_M_take : pw_Cal my_M_take prog_14_method_14_code 4 none 2 := ⟨mq_916, mq_79, by decide +kernel⟩
theorem mv_M_take : pw_CalV my_M_take := ⟨mq_915, mq_35⟩
theorem mk_M_clear : pw_Cal my_M_clear prog_14_method_15_code 2 none 1 := ⟨mq_927, mq_79, by decide +kernel⟩
theorem mk_M_store : pw_Cal my_M_store prog_14_method_16_code 4 (some .int) 1 := ⟨mq_908, mq_79, by decide +kernel⟩
theorem mv_M_store : pw_CalV my_M_store := ⟨mq_907, mq_34⟩
theorem mk_M_makeProduct : pw_Cal my_M_makeProduct prog_14_method_17_code 4 none 0 := ⟨mq_920, mq_79, by decide +kernel⟩
theorem mv_M_makeProduct : pw_CalV my_M_makeProduct := ⟨mq_919, mq_36⟩
theorem mk_M_makeQuotient : pw_Cal my_M_makeQuotient prog_14_method_18_code 5 none 0 := ⟨mq_931, mq_79, by decide +kernel⟩
theorem mv_M_makeQuotient : pw_CalV my_M_makeQuotient := ⟨mq_930, mq_37⟩
theorem mk_M_add : pw_Cal my_M_add prog_14_method_19_code 5 (some .int) 3 := ⟨mq_900, mq_79, by decide +kernel⟩
theorem mv_M_add : pw_CalV my_M_add := ⟨mq_898, mq_899⟩
theorem mk_M_multiply : pw_Cal my_M_multiply prog_14_method_20_code 4 (some .int) 3 := ⟨mq_912, mq_79, by decide +kernel⟩
theorem mv_M_multiply : pw_CalV my_M_multiply := ⟨mq_910, mq_911⟩
theorem mk_M_invert : pw_Cal my_M_invert prog_14_method_21_code 3 (some .int) 2 := ⟨mq_924, mq_79, by decide +kernel⟩
theorem mv_M_invert : pw_CalV my_M_invert := ⟨mq_922, mq_923⟩
theorem mk_M_substitute : pw_Cal my_M_substitute prog_14_method_22_code 6 (some .int) 3 := ⟨mq_939, mq_79, by decide +kernel⟩
theorem mv_M_substitute : pw_CalV my_M_substitute := ⟨mq_937, mq_938⟩
theorem mk_M_derivative : pw_Cal my_M_derivative prog_14_method_23_code 4 (some .int) 2 := ⟨mq_943, mq_79, by decide +kernel⟩
theorem mv_M_derivative : pw_CalV my_M_derivative := ⟨mq_941, mq_942⟩
theorem mk_M_append : pw_Cal my_M_append prog_14_method_24_code 2 (some .int) 1 := ⟨mq_947, mq_79, by decide +kernel⟩
theorem mv_M_append : pw_CalV my_M_append := ⟨mq_945, mq_946⟩
theorem mk_M_clearText : pw_Cal my_M_clearText prog_14_method_25_code 2 (some .int) 0 := ⟨mq_951, mq_79, by decide +kernel⟩
theorem mv_M_clearText : pw_CalV my_M_clearText := ⟨mq_949, mq_950⟩
theorem mk_M_here : pw_Cal my_M_here prog_14_method_26_code 1 (some .int) 0 := ⟨mq_971, mq_79, by decide +kernel⟩
theorem mv_M_here : pw_CalV my_M_here := ⟨mq_970, mq_42⟩
theorem mk_M_isDigit : pw_Cal my_M_isDigit prog_14_method_27_code 1 (some .boolean) 0 := ⟨mq_979, mq_79, by decide +kernel⟩
theorem mv_M_isDigit : pw_CalV my_M_isDigit := ⟨mq_978, mq_44⟩
theorem mk_M_skip : pw_Cal my_M_skip prog_14_method_28_code 1 none 0 := ⟨mq_967, mq_79, by decide +kernel⟩
theorem mv_M_skip : pw_CalV my_M_skip := ⟨mq_966, mq_41⟩
theorem mk_M_readExponent : pw_Cal my_M_readExponent prog_14_method_29_code 3 (some .int) 0 := ⟨mq_983, mq_79, by decide +kernel⟩
theorem mv_M_readExponent : pw_CalV my_M_readExponent := ⟨mq_982, mq_45⟩
theorem mk_M_readTerm : pw_Cal my_M_readTerm prog_14_method_30_code 6 (some .boolean) 2 := ⟨mq_975, mq_79, by decide +kernel⟩
theorem mv_M_readTerm : pw_CalV my_M_readTerm := ⟨mq_974, mq_43⟩
theorem mk_M_readPolynomial : pw_Cal my_M_readPolynomial prog_14_method_31_code 4 (some .boolean) 1 := ⟨mq_963, mq_79, by decide +kernel⟩
theorem mv_M_readPolynomial : pw_CalV my_M_readPolynomial := ⟨mq_962, mq_40⟩
theorem mk_M_readFraction : pw_Cal my_M_readFraction prog_14_method_32_code 1 (some .boolean) 0 := ⟨mq_959, mq_79, by decide +kernel⟩
theorem mv_M_readFraction : pw_CalV my_M_readFraction := ⟨mq_958, mq_39⟩
theorem mk_M_parse : pw_Cal my_M_parse prog_14_method_33_code 2 (some .int) 1 := ⟨mq_955, mq_79, by decide +kernel⟩
theorem mv_M_parse : pw_CalV my_M_parse := ⟨mq_953, mq_954⟩
theorem mk_M_exchange : pw_Cal my_M_exchange prog_14_method_34_code 5 none 2 := ⟨mq_1011, mq_79, by decide +kernel⟩
theorem mv_M_exchange : pw_CalV my_M_exchange := ⟨mq_1010, mq_51⟩
theorem mk_M_lessRow : pw_Cal my_M_lessRow prog_14_method_35_code 5 none 3 := ⟨mq_1015, mq_79, by decide +kernel⟩
theorem mv_M_lessRow : pw_CalV my_M_lessRow := ⟨mq_1014, mq_52⟩
theorem mk_M_rowWith : pw_Cal my_M_rowWith prog_14_method_36_code 5 (some .int) 3 := ⟨mq_1007, mq_79, by decide +kernel⟩
theorem mv_M_rowWith : pw_CalV my_M_rowWith := ⟨mq_1006, mq_50⟩
theorem mk_M_reduce : pw_Cal my_M_reduce prog_14_method_37_code 8 none 2 := ⟨mq_1003, mq_79, by decide +kernel⟩
theorem mv_M_reduce : pw_CalV my_M_reduce := ⟨mq_1002, mq_49⟩
theorem mk_M_findVector : pw_Cal my_M_findVector prog_14_method_38_code 5 none 2 := ⟨mq_999, mq_79, by decide +kernel⟩
theorem mv_M_findVector : pw_CalV my_M_findVector := ⟨mq_998, mq_48⟩
theorem mk_M_degree : pw_Cal my_M_degree prog_14_method_39_code 3 (some .int) 1 := ⟨mq_1022, mq_79, by decide +kernel⟩
theorem mk_M_copy : pw_Cal my_M_copy prog_14_method_40_code 3 none 2 := ⟨mq_1025, mq_79, by decide +kernel⟩
theorem mk_M_divide : pw_Cal my_M_divide prog_14_method_41_code 9 none 3 := ⟨mq_1029, mq_79, by decide +kernel⟩
theorem mv_M_divide : pw_CalV my_M_divide := ⟨mq_1028, mq_54⟩
theorem mk_M_toLowest : pw_Cal my_M_toLowest prog_14_method_42_code 4 none 0 := ⟨mq_1019, mq_79, by decide +kernel⟩
theorem mv_M_toLowest : pw_CalV my_M_toLowest := ⟨mq_1018, mq_53⟩
theorem mk_M_valueAt : pw_Cal my_M_valueAt prog_14_method_43_code 5 (some .int) 2 := ⟨mq_1069, mq_79, by decide +kernel⟩
theorem mv_M_valueAt : pw_CalV my_M_valueAt := ⟨mq_1068, mq_58⟩
theorem mk_M_isPair : pw_Cal my_M_isPair prog_14_method_44_code 4 (some .boolean) 3 := ⟨mq_991, mq_79, by decide +kernel⟩
theorem mv_M_isPair : pw_CalV my_M_isPair := ⟨mq_990, mq_46⟩
theorem mk_M_approximate : pw_Cal my_M_approximate prog_14_method_45_code 7 none 3 := ⟨mq_995, mq_79, by decide +kernel⟩
theorem mv_M_approximate : pw_CalV my_M_approximate := ⟨mq_994, mq_47⟩
theorem mk_M_orderOf : pw_Cal my_M_orderOf prog_14_method_46_code 3 (some .int) 1 := ⟨mq_1053, mq_79, by decide +kernel⟩
theorem mv_M_orderOf : pw_CalV my_M_orderOf := ⟨mq_1052, mq_56⟩
theorem mk_M_sizeOf : pw_Cal my_M_sizeOf prog_14_method_47_code 2 (some .int) 1 := ⟨mq_1061, mq_79, by decide +kernel⟩
theorem mv_M_sizeOf : pw_CalV my_M_sizeOf := ⟨mq_1060, mq_57⟩
theorem mk_M_degreeOrNone : pw_Cal my_M_degreeOrNone prog_14_method_48_code 3 (some .int) 1 := ⟨mq_1033, mq_79, by decide +kernel⟩
theorem mv_M_degreeOrNone : pw_CalV my_M_degreeOrNone := ⟨mq_1032, mq_55⟩
theorem mk_M_numeratorDegree : pw_Cal my_M_numeratorDegree prog_14_method_49_code 4 (some .int) 3 := ⟨mq_987, mq_79, by decide +kernel⟩
theorem mv_M_numeratorDegree : pw_CalV my_M_numeratorDegree := ⟨mq_985, mq_986⟩
theorem mk_M_denominatorDegree : pw_Cal my_M_denominatorDegree prog_14_method_50_code 4 (some .int) 3 := ⟨mq_1037, mq_79, by decide +kernel⟩
theorem mv_M_denominatorDegree : pw_CalV my_M_denominatorDegree := ⟨mq_1035, mq_1036⟩
theorem mk_M_numerator : pw_Cal my_M_numerator prog_14_method_51_code 5 (some .int) 4 := ⟨mq_1041, mq_79, by decide +kernel⟩
theorem mv_M_numerator : pw_CalV my_M_numerator := ⟨mq_1039, mq_1040⟩
theorem mk_M_denominator : pw_Cal my_M_denominator prog_14_method_52_code 5 (some .int) 4 := ⟨mq_1045, mq_79, by decide +kernel⟩
theorem mv_M_denominator : pw_CalV my_M_denominator := ⟨mq_1043, mq_1044⟩
theorem mk_M_order : pw_Cal my_M_order prog_14_method_53_code 4 (some .int) 3 := ⟨mq_1049, mq_79, by decide +kernel⟩
theorem mv_M_order : pw_CalV my_M_order := ⟨mq_1047, mq_1048⟩
theorem mk_M_blockSize : pw_Cal my_M_blockSize prog_14_method_54_code 4 (some .int) 3 := ⟨mq_1057, mq_79, by decide +kernel⟩
theorem mv_M_blockSize : pw_CalV my_M_blockSize := ⟨mq_1055, mq_1056⟩
theorem mk_M_evaluate : pw_Cal my_M_evaluate prog_14_method_55_code 6 (some .int) 4 := ⟨mq_1065, mq_79, by decide +kernel⟩
theorem mv_M_evaluate : pw_CalV my_M_evaluate := ⟨mq_1063, mq_1064⟩
theorem mk_M_normals : pw_Cal my_M_normals prog_14_method_56_code 5 (some .int) 2 := ⟨mq_1077, mq_79, by decide +kernel⟩
theorem mv_M_normals : pw_CalV my_M_normals := ⟨mq_1076, mq_59⟩
theorem mk_M_normalCount : pw_Cal my_M_normalCount prog_14_method_57_code 3 (some .int) 2 := ⟨mq_1073, mq_79, by decide +kernel⟩
theorem mv_M_normalCount : pw_CalV my_M_normalCount := ⟨mq_1071, mq_1072⟩
theorem mk_M_determinant : pw_Cal my_M_determinant prog_14_method_58_code 9 (some .int) 3 := ⟨mq_1081, mq_79, by decide +kernel⟩
theorem mv_M_determinant : pw_CalV my_M_determinant := ⟨mq_1079, mq_1080⟩
theorem mk_M_cell : pw_Cal my_M_cell prog_14_method_59_code 2 (some .int) 2 := ⟨mq_1092, mq_79, by decide +kernel⟩
theorem mk_M_findScheme : pw_Cal my_M_findScheme prog_14_method_60_code 7 none 1 := ⟨mq_1089, mq_79, by decide +kernel⟩
theorem mv_M_findScheme : pw_CalV my_M_findScheme := ⟨mq_1088, mq_60⟩
theorem mk_M_quotientDifference : pw_Cal my_M_quotientDifference prog_14_method_61_code 7 (some .int) 4 := ⟨mq_1085, mq_79, by decide +kernel⟩
theorem mv_M_quotientDifference : pw_CalV my_M_quotientDifference := ⟨mq_1083, mq_1084⟩
theorem mk_M_isCut : pw_Cal my_M_isCut prog_14_method_62_code 3 (some .boolean) 2 := ⟨mq_1100, mq_79, by decide +kernel⟩
theorem mv_M_isCut : pw_CalV my_M_isCut := ⟨mq_1099, mq_61⟩
theorem mk_M_findQuotients : pw_Cal my_M_findQuotients prog_14_method_63_code 5 (some .int) 3 := ⟨mq_1104, mq_79, by decide +kernel⟩
theorem mv_M_findQuotients : pw_CalV my_M_findQuotients := ⟨mq_1103, mq_62⟩
theorem mk_M_quotientCount : pw_Cal my_M_quotientCount prog_14_method_64_code 3 (some .int) 2 := ⟨mq_1096, mq_79, by decide +kernel⟩
theorem mv_M_quotientCount : pw_CalV my_M_quotientCount := ⟨mq_1094, mq_1095⟩
theorem mk_M_quotient : pw_Cal my_M_quotient prog_14_method_65_code 5 (some .int) 4 := ⟨mq_1108, mq_79, by decide +kernel⟩
theorem mv_M_quotient : pw_CalV my_M_quotient := ⟨mq_1106, mq_1107⟩
theorem mk_M_isRecurrent : pw_Cal my_M_isRecurrent prog_14_method_66_code 6 (some .boolean) 3 := ⟨mq_1120, mq_79, by decide +kernel⟩
theorem mv_M_isRecurrent : pw_CalV my_M_isRecurrent := ⟨mq_1119, mq_64⟩
theorem mk_M_complexityOf : pw_Cal my_M_complexityOf prog_14_method_67_code 4 (some .int) 2 := ⟨mq_1116, mq_79, by decide +kernel⟩
theorem mv_M_complexityOf : pw_CalV my_M_complexityOf := ⟨mq_1115, mq_63⟩
theorem mk_M_complexity : pw_Cal my_M_complexity prog_14_method_68_code 3 (some .int) 2 := ⟨mq_1112, mq_79, by decide +kernel⟩
theorem mv_M_complexity : pw_CalV my_M_complexity := ⟨mq_1110, mq_1111⟩
theorem mk_M_recurrence : pw_Cal my_M_recurrence prog_14_method_69_code 5 (some .int) 3 := ⟨mq_1124, mq_79, by decide +kernel⟩
theorem mv_M_recurrence : pw_CalV my_M_recurrence := ⟨mq_1122, mq_1123⟩
theorem mk_M_points : pw_Cal my_M_points prog_14_method_70_code 1 (some .int) 0 := ⟨mq_1132, mq_79, by decide +kernel⟩
theorem mv_M_points : pw_CalV my_M_points := ⟨mq_1131, mq_65⟩
theorem mk_M_addPoint : pw_Cal my_M_addPoint prog_14_method_71_code 4 (some .int) 2 := ⟨mq_1128, mq_79, by decide +kernel⟩
theorem mv_M_addPoint : pw_CalV my_M_addPoint := ⟨mq_1126, mq_1127⟩
theorem mk_M_clearPoints : pw_Cal my_M_clearPoints prog_14_method_72_code 3 (some .int) 0 := ⟨mq_1136, mq_79, by decide +kernel⟩
theorem mv_M_clearPoints : pw_CalV my_M_clearPoints := ⟨mq_1134, mq_1135⟩
theorem mk_M_interpolate : pw_Cal my_M_interpolate prog_14_method_73_code 6 none 1 := ⟨mq_1144, mq_79, by decide +kernel⟩
theorem mv_M_interpolate : pw_CalV my_M_interpolate := ⟨mq_1143, mq_66⟩
theorem mk_M_missed : pw_Cal my_M_missed prog_14_method_74_code 5 (some .int) 1 := ⟨mq_1152, mq_79, by decide +kernel⟩
theorem mv_M_missed : pw_CalV my_M_missed := ⟨mq_1151, mq_67⟩
theorem mk_M_interpolant : pw_Cal my_M_interpolant prog_14_method_75_code 4 (some .int) 3 := ⟨mq_1140, mq_79, by decide +kernel⟩
theorem mv_M_interpolant : pw_CalV my_M_interpolant := ⟨mq_1138, mq_1139⟩
theorem mk_M_unattainable : pw_Cal my_M_unattainable prog_14_method_76_code 2 (some .int) 1 := ⟨mq_1148, mq_79, by decide +kernel⟩
theorem mv_M_unattainable : pw_CalV my_M_unattainable := ⟨mq_1146, mq_1147⟩
theorem mk_M_undo : pw_Cal my_M_undo prog_14_method_77_code 2 (some .int) 0 := ⟨mq_1156, mq_79, by decide +kernel⟩
theorem mv_M_undo : pw_CalV my_M_undo := ⟨mq_1154, mq_1155⟩
theorem mk_M_errorCount : pw_Cal my_M_errorCount prog_14_method_78_code 2 (some .int) 1 := ⟨mq_1160, mq_79, by decide +kernel⟩
theorem mv_M_errorCount : pw_CalV my_M_errorCount := ⟨mq_1158, mq_1159⟩
theorem mk_M_digest : pw_Cal my_M_digest prog_14_method_79_code 5 (some .long) 0 := ⟨mq_1164, mq_79, by decide +kernel⟩
theorem mv_M_digest : pw_CalV my_M_digest := ⟨mq_1162, mq_1163⟩
section PWx
variable {α : Type} {X : pw_X α} {cc : ByteArray} {own : String} {rm : Room} {nL cells slots pc : Nat} {L : List (Nat × Value)} {st : List Value} {σ : pw_Sto} {F : Option (α × pw_Sto)}
theorem sp_icmp_geT (hX : pw_Ok X cc own rm nL) {x y : Int} {off : Int} (tgt : Nat) (hr : pw_R x ∧ pw_R y) (h : y ≤ x) (ht : (pc : Int) + off = (tgt : Int)) (d : decode cc pc = .ok (.if_icmp .ge off, 3)) (K : pw_Sp X cells slots tgt L st σ F) : pw_Sp X cells slots pc L (.int (iI y) :: .int (iI x) :: st) σ F := by
  have h1 := sp_icmp_ge (cells := cells) (slots := slots) (L := L) (st := st) (σ := σ) (x := x) (y := y) (G1 := F) (G2 := none) hX tgt ht d (fun _ => K) (fun q => absurd h q)
  rw [pw_ck_ok hr.1 hr.2, if_pos h] at h1
  exact h1
theorem sp_icmp_geF (hX : pw_Ok X cc own rm nL) {x y : Int} {off : Int} (hr : pw_R x ∧ pw_R y) (h : ¬ y ≤ x) (d : decode cc pc = .ok (.if_icmp .ge off, 3)) (K : pw_Sp X cells slots (pc + 3) L st σ F) : pw_Sp X cells slots pc L (.int (iI y) :: .int (iI x) :: st) σ F := by
  obtain ⟨⟨p, l, e, R, s, m, args, below, meth, c⟩, Q, ⟨b, D, c1, c2, c3⟩, out, mc, ms⟩ := X
  intro hF hN H locs ls hl hH hS
  intro T hT Y
  obtain ⟨t, a, b'⟩ := K hF hN H locs ls hl hH hS T hT Y
  refine ⟨t, ?_, b'⟩
  have hx := hX.1
  have hb := hX.2.1
  have h2 : ¬ iI y ≤ iI x := mt (iI_le hr.2 hr.1).mp h
  dsimp only at hx hb
  jvm_step Y.here [Y.here.top, hx, hb, d, Op.if_icmp.holds, h2, pw_tr]
  exact a
end PWx
end
section
/-! java/util/Arrays.fill([II)V -/
theorem md_A_fill_0 : decode prog_16_method_103_code 0 = .ok (.iconst 0, 1) := by decide +kernel
theorem md_A_fill_1 : decode prog_16_method_103_code 1 = .ok (.istore_n 2, 1) := by decide +kernel
theorem md_A_fill_2 : decode prog_16_method_103_code 2 = .ok (.aload_n 0, 1) := by decide +kernel
theorem md_A_fill_3 : decode prog_16_method_103_code 3 = .ok (.arraylength, 1) := by decide +kernel
theorem md_A_fill_4 : decode prog_16_method_103_code 4 = .ok (.istore_n 3, 1) := by decide +kernel
theorem md_A_fill_5 : decode prog_16_method_103_code 5 = .ok (.iload_n 2, 1) := by decide +kernel
theorem md_A_fill_6 : decode prog_16_method_103_code 6 = .ok (.iload_n 3, 1) := by decide +kernel
theorem md_A_fill_7 : decode prog_16_method_103_code 7 = .ok (.if_icmp .ge 13, 3) := by decide +kernel
theorem md_A_fill_20 : decode prog_16_method_103_code 20 = .ok (.return_, 1) := by decide +kernel
theorem md_A_fill_10 : decode prog_16_method_103_code 10 = .ok (.aload_n 0, 1) := by decide +kernel
theorem md_A_fill_11 : decode prog_16_method_103_code 11 = .ok (.iload_n 2, 1) := by decide +kernel
theorem md_A_fill_12 : decode prog_16_method_103_code 12 = .ok (.iload_n 1, 1) := by decide +kernel
theorem md_A_fill_13 : decode prog_16_method_103_code 13 = .ok (.iastore, 1) := by decide +kernel
theorem md_A_fill_14 : decode prog_16_method_103_code 14 = .ok (.iinc 2 1, 3) := by decide +kernel
theorem md_A_fill_17 : decode prog_16_method_103_code 17 = .ok (.goto (-12), 3) := by decide +kernel
def mb_A_fill_5 (rc : Nat → Int → Int → Int → pw_Sto → Option (Unit × pw_Sto)) : Nat → Int → Int → Int → pw_Sto → Option (Unit × pw_Sto) := fun x0 x1 x2 x3 σ => pw_ck x2 x3 (if x3 ≤ x2 then some ((), σ) else (pw_si x0 x2 x1 σ).bind (fun s2 => rc x0 x1 (x2 + 1) x3 s2))
def ml_A_fill_5 : Nat → Nat → Int → Int → Int → pw_Sto → Option (Unit × pw_Sto) := pw_lp (fun _ _ _ _ _ => none) (mb_A_fill_5)
def mf_A_fill (x0 : Nat) (x1 : Int) (σ : pw_Sto) : Option (Unit × pw_Sto) := (pw_al x0 σ).bind (fun v1 => ml_A_fill_5 1000 x0 x1 (0 : Int) v1 σ)
set_option maxHeartbeats 4000000 in
set_option maxRecDepth 20000 in
theorem sl_A_fill_5 {X : pw_X Unit} (hX : pw_Ok X prog_16_method_103_code "java/util/Arrays" mr_A_fill 4) (hR : pw_RV X prog_16_method_103_code) : ∀ (n : Nat) (x0 : Nat) (x1 : Int) (x2 : Int) (x3 : Int) (σ : pw_Sto), pw_Sp X 0 0 5 [(0, Value.ref x0), (1, Value.int (iI x1)), (2, Value.int (iI x2)), (3, Value.int (iI x3))] [] σ (ml_A_fill_5 n x0 x1 x2 x3 σ) := by
  intro n
  induction n with
  | zero => intros; exact pw_none
  | succ n ih =>
    intro x0 x1 x2 x3 σ
    show pw_Sp X 0 0 5 _ _ σ (mb_A_fill_5 (ml_A_fill_5 n) x0 x1 x2 x3 σ)
    unfold mb_A_fill_5
    refine sp_iload_n (pc := 5) (k := 2) (i := 2) hX rfl 2 rfl md_A_fill_5 ?_
    refine sp_iload_n (pc := 6) (k := 3) (i := 3) hX rfl 3 rfl md_A_fill_6 ?_
    refine sp_icmp_ge (pc := 7) hX 20 (by decide) md_A_fill_7 (fun _ => ?_) (fun _ => ?_)
    · exact sp_vret (pc := 20) hX hR rfl (Nat.le_of_ble_eq_true rfl) md_A_fill_20
    · refine sp_aload_n (pc := 10) (k := 0) (i := 0) hX rfl 0 rfl md_A_fill_10 ?_
      refine sp_iload_n (pc := 11) (k := 2) (i := 2) hX rfl 2 rfl md_A_fill_11 ?_
      refine sp_iload_n (pc := 12) (k := 1) (i := 1) hX rfl 1 rfl md_A_fill_12 ?_
      refine sp_iastore (pc := 13) hX md_A_fill_13 (fun s2 => ?_)
      refine sp_iinc (pc := 14) (i := 2) (L' := [(2, Value.int (iI (x2 + 1))), (0, Value.ref x0), (1, Value.int (iI x1)), (3, Value.int (iI x3))]) hX 2 rfl (by decide) rfl md_A_fill_14 ?_
      refine sp_goto (pc := 17) hX 5 (by decide) md_A_fill_17 ?_
      refine sp_sub [1, 2, 0, 3] (L' := [(0, Value.ref x0), (1, Value.int (iI x1)), (2, Value.int (iI (x2 + 1))), (3, Value.int (iI x3))]) rfl ?_
      exact ih x0 x1 (x2 + 1) x3 s2
set_option maxHeartbeats 4000000 in
set_option maxRecDepth 20000 in
theorem mc_A_fill {l : Launch} {E : pw_E} {σ : pw_Sto} {x0 : Nat} {x1 : Int} {out : Unit × pw_Sto} (h : mf_A_fill x0 x1 σ = some out) : pw_CV l E my_A_fill prog_16_method_103_code 4 none mr_A_fill [.ref x0, .int (iI x1)] σ out := by
  unfold mf_A_fill at h
  refine pw_entryV (by decide) (Nat.le_of_ble_eq_true rfl) h (fun X hX hR hI => ?_)
  change pw_Ok X prog_16_method_103_code "java/util/Arrays" mr_A_fill 4 at hX
  show pw_Sp X 0 0 0 [(0, Value.ref x0), (1, Value.int (iI x1))] [] σ _
  refine sp_iconst (pc := 0) hX md_A_fill_0 ?_
  refine sp_istore_n (pc := 1) (k := 2) (i := 2) (L' := [(2, Value.int (iI (0 : Int))), (0, Value.ref x0), (1, Value.int (iI x1))]) hX rfl (by decide) rfl md_A_fill_1 ?_
  refine sp_aload_n (pc := 2) (k := 0) (i := 0) hX rfl 1 rfl md_A_fill_2 ?_
  refine sp_alen (pc := 3) hX md_A_fill_3 (fun v1 => ?_)
  refine sp_istore_n (pc := 4) (k := 3) (i := 3) (L' := [(3, Value.int (iI v1)), (2, Value.int (iI (0 : Int))), (0, Value.ref x0), (1, Value.int (iI x1))]) hX rfl (by decide) rfl md_A_fill_4 ?_
  refine sp_sub [2, 3, 1, 0] (L' := [(0, Value.ref x0), (1, Value.int (iI x1)), (2, Value.int (iI (0 : Int))), (3, Value.int (iI v1))]) rfl ?_
  exact sl_A_fill_5 hX hR 1000 x0 x1 (0 : Int) v1 σ
/-! PadeWorkbench$Field.reduce(II)I -/
theorem md_K_reduce_0 : decode prog_3_method_2_code 0 = .ok (.iload_n 1, 1) := by decide +kernel
theorem md_K_reduce_1 : decode prog_3_method_2_code 1 = .ok (.ifCond .le 9, 3) := by decide +kernel
theorem md_K_reduce_10 : decode prog_3_method_2_code 10 = .ok (.iconst 0, 1) := by decide +kernel
theorem md_K_reduce_11 : decode prog_3_method_2_code 11 = .ok (.ireturn, 1) := by decide +kernel
theorem md_K_reduce_4 : decode prog_3_method_2_code 4 = .ok (.iload_n 0, 1) := by decide +kernel
theorem md_K_reduce_5 : decode prog_3_method_2_code 5 = .ok (.iload_n 1, 1) := by decide +kernel
theorem md_K_reduce_6 : decode prog_3_method_2_code 6 = .ok (.irem, 1) := by decide +kernel
theorem md_K_reduce_7 : decode prog_3_method_2_code 7 = .ok (.goto 4, 3) := by decide +kernel
def mf_K_reduce (x0 : Int) (x1 : Int) (σ : pw_Sto) : Option (Int × pw_Sto) := pw_ck x1 0 (if x1 ≤ 0 then some ((0 : Int), σ) else (pw_rem x0 x1).bind (fun v1 => some (v1, σ)))
set_option maxHeartbeats 4000000 in
set_option maxRecDepth 20000 in
theorem mc_K_reduce {l : Launch} {E : pw_E} {σ : pw_Sto} {x0 : Int} {x1 : Int} {out : Int × pw_Sto} (h : mf_K_reduce x0 x1 σ = some out) : pw_CI l E my_K_reduce prog_3_method_2_code 2 (some .int) mr_K_reduce [.int (iI x0), .int (iI x1)] σ out := by
  unfold mf_K_reduce at h
  refine pw_entryI (by decide) (Nat.le_of_ble_eq_true rfl) h (fun X hX hR hI => ?_)
  change pw_Ok X prog_3_method_2_code "PadeWorkbench$Field" mr_K_reduce 2 at hX
  show pw_Sp X 0 0 0 [(0, Value.int (iI x0)), (1, Value.int (iI x1))] [] σ _
  refine sp_iload_n (pc := 0) (k := 1) (i := 1) hX rfl 1 rfl md_K_reduce_0 ?_
  refine sp_if_le (pc := 1) hX 10 (by decide) md_K_reduce_1 (fun _ => ?_) (fun _ => ?_)
  · refine sp_iconst (pc := 10) hX md_K_reduce_10 ?_
    exact sp_iret (pc := 11) hX hR rfl (Nat.le_of_ble_eq_true rfl) md_K_reduce_11
  · refine sp_iload_n (pc := 4) (k := 0) (i := 0) hX rfl 0 rfl md_K_reduce_4 ?_
    refine sp_iload_n (pc := 5) (k := 1) (i := 1) hX rfl 1 rfl md_K_reduce_5 ?_
    refine sp_irem (pc := 6) hX md_K_reduce_6 (fun v1 => ?_)
    refine sp_goto (pc := 7) hX 11 (by decide) md_K_reduce_7 ?_
    exact sp_iret (pc := 11) hX hR rfl (Nat.le_of_ble_eq_true rfl) md_K_reduce_11
/-! PadeWorkbench$Series.sum([I[I[II)V -/
theorem md_S_sum_0 : decode prog_10_method_2_code 0 = .ok (.iconst 0, 1) := by decide +kernel
theorem md_S_sum_1 : decode prog_10_method_2_code 1 = .ok (.istore 4, 2) := by decide +kernel
theorem md_S_sum_3 : decode prog_10_method_2_code 3 = .ok (.iload 4, 2) := by decide +kernel
theorem md_S_sum_5 : decode prog_10_method_2_code 5 = .ok (.bipush 16, 2) := by decide +kernel
theorem md_S_sum_7 : decode prog_10_method_2_code 7 = .ok (.if_icmp .ge 26, 3) := by decide +kernel
theorem md_S_sum_33 : decode prog_10_method_2_code 33 = .ok (.return_, 1) := by decide +kernel
theorem md_S_sum_10 : decode prog_10_method_2_code 10 = .ok (.aload_n 2, 1) := by decide +kernel
theorem md_S_sum_11 : decode prog_10_method_2_code 11 = .ok (.iload 4, 2) := by decide +kernel
theorem md_S_sum_13 : decode prog_10_method_2_code 13 = .ok (.aload_n 0, 1) := by decide +kernel
theorem md_S_sum_14 : decode prog_10_method_2_code 14 = .ok (.iload 4, 2) := by decide +kernel
theorem md_S_sum_16 : decode prog_10_method_2_code 16 = .ok (.iaload, 1) := by decide +kernel
theorem md_S_sum_17 : decode prog_10_method_2_code 17 = .ok (.aload_n 1, 1) := by decide +kernel
theorem md_S_sum_18 : decode prog_10_method_2_code 18 = .ok (.iload 4, 2) := by decide +kernel
theorem md_S_sum_20 : decode prog_10_method_2_code 20 = .ok (.iaload, 1) := by decide +kernel
theorem md_S_sum_21 : decode prog_10_method_2_code 21 = .ok (.iadd, 1) := by decide +kernel
theorem md_S_sum_22 : decode prog_10_method_2_code 22 = .ok (.iload_n 3, 1) := by decide +kernel
theorem md_S_sum_23 : decode prog_10_method_2_code 23 = .ok (.invokestatic 9, 3) := by decide +kernel
theorem md_S_sum_26 : decode prog_10_method_2_code 26 = .ok (.iastore, 1) := by decide +kernel
theorem md_S_sum_27 : decode prog_10_method_2_code 27 = .ok (.iinc 4 1, 3) := by decide +kernel
theorem md_S_sum_30 : decode prog_10_method_2_code 30 = .ok (.goto (-27), 3) := by decide +kernel
def mb_S_sum_3 (rc : Nat → Nat → Nat → Int → Int → pw_Sto → Option (Unit × pw_Sto)) : Nat → Nat → Nat → Int → Int → pw_Sto → Option (Unit × pw_Sto) := fun x0 x1 x2 x3 x4 σ => pw_ck x4 (16 : Int) (if (16 : Int) ≤ x4 then some ((), σ) else (pw_ai x0 x4 σ).bind (fun v1 => (pw_ai x1 x4 σ).bind (fun v2 => pw_bd (mf_K_reduce (v1 + v2) x3 σ) (fun v4 s3 => (pw_si x2 x4 v4 s3).bind (fun s5 => rc x0 x1 x2 x3 (x4 + 1) s5)))))
def ml_S_sum_3 : Nat → Nat → Nat → Nat → Int → Int → pw_Sto → Option (Unit × pw_Sto) := pw_lp (fun _ _ _ _ _ _ => none) (mb_S_sum_3)
def mf_S_sum (x0 : Nat) (x1 : Nat) (x2 : Nat) (x3 : Int) (σ : pw_Sto) : Option (Unit × pw_Sto) := ml_S_sum_3 1000 x0 x1 x2 x3 (0 : Int) σ
set_option maxHeartbeats 4000000 in
set_option maxRecDepth 20000 in
theorem sl_S_sum_3 {X : pw_X Unit} (hX : pw_Ok X prog_10_method_2_code "PadeWorkbench$Series" mr_S_sum 5) (hR : pw_RV X prog_10_method_2_code) : ∀ (n : Nat) (x0 : Nat) (x1 : Nat) (x2 : Nat) (x3 : Int) (x4 : Int) (σ : pw_Sto), pw_Sp X 0 0 3 [(0, Value.ref x0), (1, Value.ref x1), (2, Value.ref x2), (3, Value.int (iI x3)), (4, Value.int (iI x4))] [] σ (ml_S_sum_3 n x0 x1 x2 x3 x4 σ) := by
  intro n
  induction n with
  | zero => intros; exact pw_none
  | succ n ih =>
    intro x0 x1 x2 x3 x4 σ
    show pw_Sp X 0 0 3 _ _ σ (mb_S_sum_3 (ml_S_sum_3 n) x0 x1 x2 x3 x4 σ)
    unfold mb_S_sum_3
    refine sp_iload (pc := 3) (i := 4) hX 4 rfl md_S_sum_3 ?_
    refine sp_bipush (pc := 5) hX (by decide) md_S_sum_5 ?_
    refine sp_icmp_ge (pc := 7) hX 33 (by decide) md_S_sum_7 (fun _ => ?_) (fun _ => ?_)
    · exact sp_vret (pc := 33) hX hR rfl (Nat.le_of_ble_eq_true rfl) md_S_sum_33
    · refine sp_aload_n (pc := 10) (k := 2) (i := 2) hX rfl 2 rfl md_S_sum_10 ?_
      refine sp_iload (pc := 11) (i := 4) hX 4 rfl md_S_sum_11 ?_
      refine sp_aload_n (pc := 13) (k := 0) (i := 0) hX rfl 0 rfl md_S_sum_13 ?_
      refine sp_iload (pc := 14) (i := 4) hX 4 rfl md_S_sum_14 ?_
      refine sp_iaload (pc := 16) hX md_S_sum_16 (fun v1 => ?_)
      refine sp_aload_n (pc := 17) (k := 1) (i := 1) hX rfl 1 rfl md_S_sum_17 ?_
      refine sp_iload (pc := 18) (i := 4) hX 4 rfl md_S_sum_18 ?_
      refine sp_iaload (pc := 20) hX md_S_sum_20 (fun v2 => ?_)
      refine sp_iadd (pc := 21) hX md_S_sum_21 ?_
      refine sp_iload_n (pc := 22) (k := 3) (i := 3) hX rfl 3 rfl md_S_sum_22 ?_
      refine sp_callSI (pc := 23) (y := my_K_reduce) (ccy := prog_3_method_2_code) (nLy := 2) (ret := (some .int)) (rmy := mr_K_reduce) (n := 2) (idx := 9) (As := [.int (iI (v1 + v2)), .int (iI x3)]) (st := [.int (iI x4), .ref x2]) (cells' := 0) (slots' := 0) hX (fun _ h => mc_K_reduce h) mk_K_reduce mq_373 mq_372 ⟨(Nat.le_of_ble_eq_true rfl), (Nat.le_of_ble_eq_true rfl)⟩ rfl rfl (Nat.le_of_ble_eq_true rfl) ⟨(Nat.le_of_ble_eq_true rfl), (Nat.le_of_ble_eq_true rfl)⟩ rfl rfl md_S_sum_23 (fun v4 s3 => ?_)
      refine sp_iastore (pc := 26) hX md_S_sum_26 (fun s5 => ?_)
      refine sp_iinc (pc := 27) (i := 4) (L' := [(4, Value.int (iI (x4 + 1))), (0, Value.ref x0), (1, Value.ref x1), (2, Value.ref x2), (3, Value.int (iI x3))]) hX 4 rfl (by decide) rfl md_S_sum_27 ?_
      refine sp_goto (pc := 30) hX 3 (by decide) md_S_sum_30 ?_
      refine sp_sub [1, 2, 3, 4, 0] (L' := [(0, Value.ref x0), (1, Value.ref x1), (2, Value.ref x2), (3, Value.int (iI x3)), (4, Value.int (iI (x4 + 1)))]) rfl ?_
      exact ih x0 x1 x2 x3 (x4 + 1) s5
set_option maxHeartbeats 4000000 in
set_option maxRecDepth 20000 in
theorem mc_S_sum {l : Launch} {E : pw_E} {σ : pw_Sto} {x0 : Nat} {x1 : Nat} {x2 : Nat} {x3 : Int} {out : Unit × pw_Sto} (h : mf_S_sum x0 x1 x2 x3 σ = some out) : pw_CV l E my_S_sum prog_10_method_2_code 5 none mr_S_sum [.ref x0, .ref x1, .ref x2, .int (iI x3)] σ out := by
  unfold mf_S_sum at h
  refine pw_entryV (by decide) (Nat.le_of_ble_eq_true rfl) h (fun X hX hR hI => ?_)
  change pw_Ok X prog_10_method_2_code "PadeWorkbench$Series" mr_S_sum 5 at hX
  show pw_Sp X 0 0 0 [(0, Value.ref x0), (1, Value.ref x1), (2, Value.ref x2), (3, Value.int (iI x3))] [] σ _
  refine sp_iconst (pc := 0) hX md_S_sum_0 ?_
  refine sp_istore (pc := 1) (i := 4) (L' := [(4, Value.int (iI (0 : Int))), (0, Value.ref x0), (1, Value.ref x1), (2, Value.ref x2), (3, Value.int (iI x3))]) hX (by decide) rfl md_S_sum_1 ?_
  refine sp_sub [1, 2, 3, 4, 0] (L' := [(0, Value.ref x0), (1, Value.ref x1), (2, Value.ref x2), (3, Value.int (iI x3)), (4, Value.int (iI (0 : Int)))]) rfl ?_
  exact sl_S_sum_3 hX hR 1000 x0 x1 x2 x3 (0 : Int) σ
/-! PadeWorkbench$Series.countOfNonZero([I)I -/
theorem md_S_countOfNonZero_0 : decode prog_10_method_6_code 0 = .ok (.iconst 0, 1) := by decide +kernel
theorem md_S_countOfNonZero_1 : decode prog_10_method_6_code 1 = .ok (.istore_n 1, 1) := by decide +kernel
theorem md_S_countOfNonZero_2 : decode prog_10_method_6_code 2 = .ok (.iconst 0, 1) := by decide +kernel
theorem md_S_countOfNonZero_3 : decode prog_10_method_6_code 3 = .ok (.istore_n 2, 1) := by decide +kernel
theorem md_S_countOfNonZero_4 : decode prog_10_method_6_code 4 = .ok (.iload_n 2, 1) := by decide +kernel
theorem md_S_countOfNonZero_5 : decode prog_10_method_6_code 5 = .ok (.bipush 16, 2) := by decide +kernel
theorem md_S_countOfNonZero_7 : decode prog_10_method_6_code 7 = .ok (.if_icmp .ge 18, 3) := by decide +kernel
theorem md_S_countOfNonZero_25 : decode prog_10_method_6_code 25 = .ok (.iload_n 1, 1) := by decide +kernel
theorem md_S_countOfNonZero_26 : decode prog_10_method_6_code 26 = .ok (.ireturn, 1) := by decide +kernel
theorem md_S_countOfNonZero_10 : decode prog_10_method_6_code 10 = .ok (.aload_n 0, 1) := by decide +kernel
theorem md_S_countOfNonZero_11 : decode prog_10_method_6_code 11 = .ok (.iload_n 2, 1) := by decide +kernel
theorem md_S_countOfNonZero_12 : decode prog_10_method_6_code 12 = .ok (.iaload, 1) := by decide +kernel
theorem md_S_countOfNonZero_13 : decode prog_10_method_6_code 13 = .ok (.ifCond .eq 6, 3) := by decide +kernel
theorem md_S_countOfNonZero_19 : decode prog_10_method_6_code 19 = .ok (.iinc 2 1, 3) := by decide +kernel
theorem md_S_countOfNonZero_22 : decode prog_10_method_6_code 22 = .ok (.goto (-18), 3) := by decide +kernel
theorem md_S_countOfNonZero_16 : decode prog_10_method_6_code 16 = .ok (.iinc 1 1, 3) := by decide +kernel
def mb_S_countOfNonZero_4 (rc : Nat → Int → Int → pw_Sto → Option (Int × pw_Sto)) : Nat → Int → Int → pw_Sto → Option (Int × pw_Sto) := fun x0 x1 x2 σ => pw_ck x2 (16 : Int) (if (16 : Int) ≤ x2 then some (x1, σ) else (pw_ai x0 x2 σ).bind (fun v1 => pw_ck v1 0 (if v1 = 0 then rc x0 x1 (x2 + 1) σ else rc x0 (x1 + 1) (x2 + 1) σ)))
def ml_S_countOfNonZero_4 : Nat → Nat → Int → Int → pw_Sto → Option (Int × pw_Sto) := pw_lp (fun _ _ _ _ => none) (mb_S_countOfNonZero_4)
def mf_S_countOfNonZero (x0 : Nat) (σ : pw_Sto) : Option (Int × pw_Sto) := ml_S_countOfNonZero_4 1000 x0 (0 : Int) (0 : Int) σ
set_option maxHeartbeats 4000000 in
set_option maxRecDepth 20000 in
theorem sl_S_countOfNonZero_4 {X : pw_X Int} (hX : pw_Ok X prog_10_method_6_code "PadeWorkbench$Series" mr_S_countOfNonZero 3) (hR : pw_RI X prog_10_method_6_code) : ∀ (n : Nat) (x0 : Nat) (x1 : Int) (x2 : Int) (σ : pw_Sto), pw_Sp X 0 0 4 [(0, Value.ref x0), (1, Value.int (iI x1)), (2, Value.int (iI x2))] [] σ (ml_S_countOfNonZero_4 n x0 x1 x2 σ) := by
  intro n
  induction n with
  | zero => intros; exact pw_none
  | succ n ih =>
    intro x0 x1 x2 σ
    show pw_Sp X 0 0 4 _ _ σ (mb_S_countOfNonZero_4 (ml_S_countOfNonZero_4 n) x0 x1 x2 σ)
    unfold mb_S_countOfNonZero_4
    refine sp_iload_n (pc := 4) (k := 2) (i := 2) hX rfl 2 rfl md_S_countOfNonZero_4 ?_
    refine sp_bipush (pc := 5) hX (by decide) md_S_countOfNonZero_5 ?_
    refine sp_icmp_ge (pc := 7) hX 25 (by decide) md_S_countOfNonZero_7 (fun _ => ?_) (fun _ => ?_)
    · refine sp_iload_n (pc := 25) (k := 1) (i := 1) hX rfl 1 rfl md_S_countOfNonZero_25 ?_
      exact sp_iret (pc := 26) hX hR rfl (Nat.le_of_ble_eq_true rfl) md_S_countOfNonZero_26
    · refine sp_aload_n (pc := 10) (k := 0) (i := 0) hX rfl 0 rfl md_S_countOfNonZero_10 ?_
      refine sp_iload_n (pc := 11) (k := 2) (i := 2) hX rfl 2 rfl md_S_countOfNonZero_11 ?_
      refine sp_iaload (pc := 12) hX md_S_countOfNonZero_12 (fun v1 => ?_)
      refine sp_if_eq (pc := 13) hX 19 (by decide) md_S_countOfNonZero_13 (fun _ => ?_) (fun _ => ?_)
      · refine sp_iinc (pc := 19) (i := 2) (L' := [(2, Value.int (iI (x2 + 1))), (0, Value.ref x0), (1, Value.int (iI x1))]) hX 2 rfl (by decide) rfl md_S_countOfNonZero_19 ?_
        refine sp_goto (pc := 22) hX 4 (by decide) md_S_countOfNonZero_22 ?_
        refine sp_sub [1, 2, 0] (L' := [(0, Value.ref x0), (1, Value.int (iI x1)), (2, Value.int (iI (x2 + 1)))]) rfl ?_
        exact ih x0 x1 (x2 + 1) σ
      · refine sp_iinc (pc := 16) (i := 1) (L' := [(1, Value.int (iI (x1 + 1))), (0, Value.ref x0), (2, Value.int (iI x2))]) hX 1 rfl (by decide) rfl md_S_countOfNonZero_16 ?_
        refine sp_iinc (pc := 19) (i := 2) (L' := [(2, Value.int (iI (x2 + 1))), (1, Value.int (iI (x1 + 1))), (0, Value.ref x0)]) hX 2 rfl (by decide) rfl md_S_countOfNonZero_19 ?_
        refine sp_goto (pc := 22) hX 4 (by decide) md_S_countOfNonZero_22 ?_
        refine sp_sub [2, 1, 0] (L' := [(0, Value.ref x0), (1, Value.int (iI (x1 + 1))), (2, Value.int (iI (x2 + 1)))]) rfl ?_
        exact ih x0 (x1 + 1) (x2 + 1) σ
set_option maxHeartbeats 4000000 in
set_option maxRecDepth 20000 in
theorem mc_S_countOfNonZero {l : Launch} {E : pw_E} {σ : pw_Sto} {x0 : Nat} {out : Int × pw_Sto} (h : mf_S_countOfNonZero x0 σ = some out) : pw_CI l E my_S_countOfNonZero prog_10_method_6_code 3 (some .int) mr_S_countOfNonZero [.ref x0] σ out := by
  unfold mf_S_countOfNonZero at h
  refine pw_entryI (by decide) (Nat.le_of_ble_eq_true rfl) h (fun X hX hR hI => ?_)
  change pw_Ok X prog_10_method_6_code "PadeWorkbench$Series" mr_S_countOfNonZero 3 at hX
  show pw_Sp X 0 0 0 [(0, Value.ref x0)] [] σ _
  refine sp_iconst (pc := 0) hX md_S_countOfNonZero_0 ?_
  refine sp_istore_n (pc := 1) (k := 1) (i := 1) (L' := [(1, Value.int (iI (0 : Int))), (0, Value.ref x0)]) hX rfl (by decide) rfl md_S_countOfNonZero_1 ?_
  refine sp_iconst (pc := 2) hX md_S_countOfNonZero_2 ?_
  refine sp_istore_n (pc := 3) (k := 2) (i := 2) (L' := [(2, Value.int (iI (0 : Int))), (1, Value.int (iI (0 : Int))), (0, Value.ref x0)]) hX rfl (by decide) rfl md_S_countOfNonZero_3 ?_
  refine sp_sub [2, 1, 0] (L' := [(0, Value.ref x0), (1, Value.int (iI (0 : Int))), (2, Value.int (iI (0 : Int)))]) rfl ?_
  exact sl_S_countOfNonZero_4 hX hR 1000 x0 (0 : Int) (0 : Int) σ
/-! PadeWorkbench$Series.product([I[I[II)V -/
theorem md_S_product_0 : decode prog_10_method_3_code 0 = .ok (.iconst 0, 1) := by decide +kernel
theorem md_S_product_1 : decode prog_10_method_3_code 1 = .ok (.istore 4, 2) := by decide +kernel
theorem md_S_product_3 : decode prog_10_method_3_code 3 = .ok (.iload 4, 2) := by decide +kernel
theorem md_S_product_5 : decode prog_10_method_3_code 5 = .ok (.bipush 16, 2) := by decide +kernel
theorem md_S_product_7 : decode prog_10_method_3_code 7 = .ok (.if_icmp .ge 55, 3) := by decide +kernel
theorem md_S_product_62 : decode prog_10_method_3_code 62 = .ok (.return_, 1) := by decide +kernel
theorem md_S_product_10 : decode prog_10_method_3_code 10 = .ok (.iconst 0, 1) := by decide +kernel
theorem md_S_product_11 : decode prog_10_method_3_code 11 = .ok (.istore 5, 2) := by decide +kernel
theorem md_S_product_13 : decode prog_10_method_3_code 13 = .ok (.iconst 0, 1) := by decide +kernel
theorem md_S_product_14 : decode prog_10_method_3_code 14 = .ok (.istore 6, 2) := by decide +kernel
theorem md_S_product_16 : decode prog_10_method_3_code 16 = .ok (.iload 6, 2) := by decide +kernel
theorem md_S_product_18 : decode prog_10_method_3_code 18 = .ok (.iload 4, 2) := by decide +kernel
theorem md_S_product_20 : decode prog_10_method_3_code 20 = .ok (.if_icmp .gt 26, 3) := by decide +kernel
theorem md_S_product_46 : decode prog_10_method_3_code 46 = .ok (.aload_n 2, 1) := by decide +kernel
theorem md_S_product_47 : decode prog_10_method_3_code 47 = .ok (.iload 4, 2) := by decide +kernel
theorem md_S_product_49 : decode prog_10_method_3_code 49 = .ok (.iload 5, 2) := by decide +kernel
theorem md_S_product_51 : decode prog_10_method_3_code 51 = .ok (.iload_n 3, 1) := by decide +kernel
theorem md_S_product_52 : decode prog_10_method_3_code 52 = .ok (.invokestatic 9, 3) := by decide +kernel
theorem md_S_product_55 : decode prog_10_method_3_code 55 = .ok (.iastore, 1) := by decide +kernel
theorem md_S_product_56 : decode prog_10_method_3_code 56 = .ok (.iinc 4 1, 3) := by decide +kernel
theorem md_S_product_59 : decode prog_10_method_3_code 59 = .ok (.goto (-56), 3) := by decide +kernel
theorem md_S_product_23 : decode prog_10_method_3_code 23 = .ok (.iload 5, 2) := by decide +kernel
theorem md_S_product_25 : decode prog_10_method_3_code 25 = .ok (.aload_n 0, 1) := by decide +kernel
theorem md_S_product_26 : decode prog_10_method_3_code 26 = .ok (.iload 6, 2) := by decide +kernel
theorem md_S_product_28 : decode prog_10_method_3_code 28 = .ok (.iaload, 1) := by decide +kernel
theorem md_S_product_29 : decode prog_10_method_3_code 29 = .ok (.aload_n 1, 1) := by decide +kernel
theorem md_S_product_30 : decode prog_10_method_3_code 30 = .ok (.iload 4, 2) := by decide +kernel
theorem md_S_product_32 : decode prog_10_method_3_code 32 = .ok (.iload 6, 2) := by decide +kernel
theorem md_S_product_34 : decode prog_10_method_3_code 34 = .ok (.isub, 1) := by decide +kernel
theorem md_S_product_35 : decode prog_10_method_3_code 35 = .ok (.iaload, 1) := by decide +kernel
theorem md_S_product_36 : decode prog_10_method_3_code 36 = .ok (.imul, 1) := by decide +kernel
theorem md_S_product_37 : decode prog_10_method_3_code 37 = .ok (.iadd, 1) := by decide +kernel
theorem md_S_product_38 : decode prog_10_method_3_code 38 = .ok (.istore 5, 2) := by decide +kernel
theorem md_S_product_40 : decode prog_10_method_3_code 40 = .ok (.iinc 6 1, 3) := by decide +kernel
theorem md_S_product_43 : decode prog_10_method_3_code 43 = .ok (.goto (-27), 3) := by decide +kernel
def mb_S_product_16 (r3 : Nat → Nat → Nat → Int → Int → pw_Sto → Option (Unit × pw_Sto)) (rc : Nat → Nat → Nat → Int → Int → Int → Int → pw_Sto → Option (Unit × pw_Sto)) : Nat → Nat → Nat → Int → Int → Int → Int → pw_Sto → Option (Unit × pw_Sto) := fun x0 x1 x2 x3 x4 x5 x6 σ => pw_ck x6 x4 (if x4 < x6 then pw_bd (mf_K_reduce x5 x3 σ) (fun v2 s1 => (pw_si x2 x4 v2 s1).bind (fun s3 => r3 x0 x1 x2 x3 (x4 + 1) s3)) else (pw_ai x0 x6 σ).bind (fun v4 => (pw_ai x1 (x4 - x6) σ).bind (fun v5 => rc x0 x1 x2 x3 x4 (x5 + (v4 * v5)) (x6 + 1) σ)))
def ml_S_product_16 (r3 : Nat → Nat → Nat → Int → Int → pw_Sto → Option (Unit × pw_Sto)) : Nat → Nat → Nat → Nat → Int → Int → Int → Int → pw_Sto → Option (Unit × pw_Sto) := pw_lp (fun _ _ _ _ _ _ _ _ => none) (mb_S_product_16 r3)
def mb_S_product_3 (rc : Nat → Nat → Nat → Int → Int → pw_Sto → Option (Unit × pw_Sto)) : Nat → Nat → Nat → Int → Int → pw_Sto → Option (Unit × pw_Sto) := fun x0 x1 x2 x3 x4 σ => pw_ck x4 (16 : Int) (if (16 : Int) ≤ x4 then some ((), σ) else ml_S_product_16 rc 1000 x0 x1 x2 x3 x4 (0 : Int) (0 : Int) σ)
def ml_S_product_3 : Nat → Nat → Nat → Nat → Int → Int → pw_Sto → Option (Unit × pw_Sto) := pw_lp (fun _ _ _ _ _ _ => none) (mb_S_product_3)
def mf_S_product (x0 : Nat) (x1 : Nat) (x2 : Nat) (x3 : Int) (σ : pw_Sto) : Option (Unit × pw_Sto) := ml_S_product_3 1000 x0 x1 x2 x3 (0 : Int) σ
set_option maxHeartbeats 4000000 in
set_option maxRecDepth 20000 in
theorem sl_S_product_16 {X : pw_X Unit} (hX : pw_Ok X prog_10_method_3_code "PadeWorkbench$Series" mr_S_product 7) (hR : pw_RV X prog_10_method_3_code) {r3 : Nat → Nat → Nat → Int → Int → pw_Sto → Option (Unit × pw_Sto)} (h3 : ∀ (z0 : Nat) (z1 : Nat) (z2 : Nat) (z3 : Int) (z4 : Int) (σ : pw_Sto), pw_Sp X 0 0 3 [(0, Value.ref z0), (1, Value.ref z1), (2, Value.ref z2), (3, Value.int (iI z3)), (4, Value.int (iI z4))] [] σ (r3 z0 z1 z2 z3 z4 σ)) : ∀ (n : Nat) (x0 : Nat) (x1 : Nat) (x2 : Nat) (x3 : Int) (x4 : Int) (x5 : Int) (x6 : Int) (σ : pw_Sto), pw_Sp X 0 0 16 [(0, Value.ref x0), (1, Value.ref x1), (2, Value.ref x2), (3, Value.int (iI x3)), (4, Value.int (iI x4)), (5, Value.int (iI x5)), (6, Value.int (iI x6))] [] σ (ml_S_product_16 r3 n x0 x1 x2 x3 x4 x5 x6 σ) := by
  intro n
  induction n with
  | zero => intros; exact pw_none
  | succ n ih =>
    intro x0 x1 x2 x3 x4 x5 x6 σ
    show pw_Sp X 0 0 16 _ _ σ (mb_S_product_16 r3 (ml_S_product_16 r3 n) x0 x1 x2 x3 x4 x5 x6 σ)
    unfold mb_S_product_16
    refine sp_iload (pc := 16) (i := 6) hX 6 rfl md_S_product_16 ?_
    refine sp_iload (pc := 18) (i := 4) hX 4 rfl md_S_product_18 ?_
    refine sp_icmp_gt (pc := 20) hX 46 (by decide) md_S_product_20 (fun _ => ?_) (fun _ => ?_)
    · refine sp_aload_n (pc := 46) (k := 2) (i := 2) hX rfl 2 rfl md_S_product_46 ?_
      refine sp_iload (pc := 47) (i := 4) hX 4 rfl md_S_product_47 ?_
      refine sp_iload (pc := 49) (i := 5) hX 5 rfl md_S_product_49 ?_
      refine sp_iload_n (pc := 51) (k := 3) (i := 3) hX rfl 3 rfl md_S_product_51 ?_
      refine sp_callSI (pc := 52) (y := my_K_reduce) (ccy := prog_3_method_2_code) (nLy := 2) (ret := (some .int)) (rmy := mr_K_reduce) (n := 2) (idx := 9) (As := [.int (iI x5), .int (iI x3)]) (st := [.int (iI x4), .ref x2]) (cells' := 0) (slots' := 0) hX (fun _ h => mc_K_reduce h) mk_K_reduce mq_373 mq_372 ⟨(Nat.le_of_ble_eq_true rfl), (Nat.le_of_ble_eq_true rfl)⟩ rfl rfl (Nat.le_of_ble_eq_true rfl) ⟨(Nat.le_of_ble_eq_true rfl), (Nat.le_of_ble_eq_true rfl)⟩ rfl rfl md_S_product_52 (fun v2 s1 => ?_)
      refine sp_iastore (pc := 55) hX md_S_product_55 (fun s3 => ?_)
      refine sp_iinc (pc := 56) (i := 4) (L' := [(4, Value.int (iI (x4 + 1))), (0, Value.ref x0), (1, Value.ref x1), (2, Value.ref x2), (3, Value.int (iI x3)), (5, Value.int (iI x5)), (6, Value.int (iI x6))]) hX 4 rfl (by decide) rfl md_S_product_56 ?_
      refine sp_goto (pc := 59) hX 3 (by decide) md_S_product_59 ?_
      refine sp_sub [1, 2, 3, 4, 0] (L' := [(0, Value.ref x0), (1, Value.ref x1), (2, Value.ref x2), (3, Value.int (iI x3)), (4, Value.int (iI (x4 + 1)))]) rfl ?_
      exact h3 x0 x1 x2 x3 (x4 + 1) s3
    · refine sp_iload (pc := 23) (i := 5) hX 5 rfl md_S_product_23 ?_
      refine sp_aload_n (pc := 25) (k := 0) (i := 0) hX rfl 0 rfl md_S_product_25 ?_
      refine sp_iload (pc := 26) (i := 6) hX 6 rfl md_S_product_26 ?_
      refine sp_iaload (pc := 28) hX md_S_product_28 (fun v4 => ?_)
      refine sp_aload_n (pc := 29) (k := 1) (i := 1) hX rfl 1 rfl md_S_product_29 ?_
      refine sp_iload (pc := 30) (i := 4) hX 4 rfl md_S_product_30 ?_
      refine sp_iload (pc := 32) (i := 6) hX 6 rfl md_S_product_32 ?_
      refine sp_isub (pc := 34) hX md_S_product_34 ?_
      refine sp_iaload (pc := 35) hX md_S_product_35 (fun v5 => ?_)
      refine sp_imul (pc := 36) hX md_S_product_36 ?_
      refine sp_iadd (pc := 37) hX md_S_product_37 ?_
      refine sp_istore (pc := 38) (i := 5) (L' := [(5, Value.int (iI (x5 + (v4 * v5)))), (0, Value.ref x0), (1, Value.ref x1), (2, Value.ref x2), (3, Value.int (iI x3)), (4, Value.int (iI x4)), (6, Value.int (iI x6))]) hX (by decide) rfl md_S_product_38 ?_
      refine sp_iinc (pc := 40) (i := 6) (L' := [(6, Value.int (iI (x6 + 1))), (5, Value.int (iI (x5 + (v4 * v5)))), (0, Value.ref x0), (1, Value.ref x1), (2, Value.ref x2), (3, Value.int (iI x3)), (4, Value.int (iI x4))]) hX 6 rfl (by decide) rfl md_S_product_40 ?_
      refine sp_goto (pc := 43) hX 16 (by decide) md_S_product_43 ?_
      refine sp_sub [2, 3, 4, 5, 6, 1, 0] (L' := [(0, Value.ref x0), (1, Value.ref x1), (2, Value.ref x2), (3, Value.int (iI x3)), (4, Value.int (iI x4)), (5, Value.int (iI (x5 + (v4 * v5)))), (6, Value.int (iI (x6 + 1)))]) rfl ?_
      exact ih x0 x1 x2 x3 x4 (x5 + (v4 * v5)) (x6 + 1) σ
set_option maxHeartbeats 4000000 in
set_option maxRecDepth 20000 in
theorem sl_S_product_3 {X : pw_X Unit} (hX : pw_Ok X prog_10_method_3_code "PadeWorkbench$Series" mr_S_product 7) (hR : pw_RV X prog_10_method_3_code) : ∀ (n : Nat) (x0 : Nat) (x1 : Nat) (x2 : Nat) (x3 : Int) (x4 : Int) (σ : pw_Sto), pw_Sp X 0 0 3 [(0, Value.ref x0), (1, Value.ref x1), (2, Value.ref x2), (3, Value.int (iI x3)), (4, Value.int (iI x4))] [] σ (ml_S_product_3 n x0 x1 x2 x3 x4 σ) := by
  intro n
  induction n with
  | zero => intros; exact pw_none
  | succ n ih =>
    intro x0 x1 x2 x3 x4 σ
    show pw_Sp X 0 0 3 _ _ σ (mb_S_product_3 (ml_S_product_3 n) x0 x1 x2 x3 x4 σ)
    unfold mb_S_product_3
    refine sp_iload (pc := 3) (i := 4) hX 4 rfl md_S_product_3 ?_
    refine sp_bipush (pc := 5) hX (by decide) md_S_product_5 ?_
    refine sp_icmp_ge (pc := 7) hX 62 (by decide) md_S_product_7 (fun _ => ?_) (fun _ => ?_)
    · exact sp_vret (pc := 62) hX hR rfl (Nat.le_of_ble_eq_true rfl) md_S_product_62
    · refine sp_iconst (pc := 10) hX md_S_product_10 ?_
      refine sp_istore (pc := 11) (i := 5) (L' := [(5, Value.int (iI (0 : Int))), (0, Value.ref x0), (1, Value.ref x1), (2, Value.ref x2), (3, Value.int (iI x3)), (4, Value.int (iI x4))]) hX (by decide) rfl md_S_product_11 ?_
      refine sp_iconst (pc := 13) hX md_S_product_13 ?_
      refine sp_istore (pc := 14) (i := 6) (L' := [(6, Value.int (iI (0 : Int))), (5, Value.int (iI (0 : Int))), (0, Value.ref x0), (1, Value.ref x1), (2, Value.ref x2), (3, Value.int (iI x3)), (4, Value.int (iI x4))]) hX (by decide) rfl md_S_product_14 ?_
      refine sp_sub [2, 3, 4, 5, 6, 1, 0] (L' := [(0, Value.ref x0), (1, Value.ref x1), (2, Value.ref x2), (3, Value.int (iI x3)), (4, Value.int (iI x4)), (5, Value.int (iI (0 : Int))), (6, Value.int (iI (0 : Int)))]) rfl ?_
      exact sl_S_product_16 hX hR ih 1000 x0 x1 x2 x3 x4 (0 : Int) (0 : Int) σ
set_option maxHeartbeats 4000000 in
set_option maxRecDepth 20000 in
theorem mc_S_product {l : Launch} {E : pw_E} {σ : pw_Sto} {x0 : Nat} {x1 : Nat} {x2 : Nat} {x3 : Int} {out : Unit × pw_Sto} (h : mf_S_product x0 x1 x2 x3 σ = some out) : pw_CV l E my_S_product prog_10_method_3_code 7 none mr_S_product [.ref x0, .ref x1, .ref x2, .int (iI x3)] σ out := by
  unfold mf_S_product at h
  refine pw_entryV (by decide) (Nat.le_of_ble_eq_true rfl) h (fun X hX hR hI => ?_)
  change pw_Ok X prog_10_method_3_code "PadeWorkbench$Series" mr_S_product 7 at hX
  show pw_Sp X 0 0 0 [(0, Value.ref x0), (1, Value.ref x1), (2, Value.ref x2), (3, Value.int (iI x3))] [] σ _
  refine sp_iconst (pc := 0) hX md_S_product_0 ?_
  refine sp_istore (pc := 1) (i := 4) (L' := [(4, Value.int (iI (0 : Int))), (0, Value.ref x0), (1, Value.ref x1), (2, Value.ref x2), (3, Value.int (iI x3))]) hX (by decide) rfl md_S_product_1 ?_
  refine sp_sub [1, 2, 3, 4, 0] (L' := [(0, Value.ref x0), (1, Value.ref x1), (2, Value.ref x2), (3, Value.int (iI x3)), (4, Value.int (iI (0 : Int)))]) rfl ?_
  exact sl_S_product_3 hX hR 1000 x0 x1 x2 x3 (0 : Int) σ
/-! PadeWorkbench$Field.inverse(II)I -/
theorem md_K_inverse_0 : decode prog_3_method_5_code 0 = .ok (.iconst 1, 1) := by decide +kernel
theorem md_K_inverse_1 : decode prog_3_method_5_code 1 = .ok (.istore_n 2, 1) := by decide +kernel
theorem md_K_inverse_2 : decode prog_3_method_5_code 2 = .ok (.iload_n 0, 1) := by decide +kernel
theorem md_K_inverse_3 : decode prog_3_method_5_code 3 = .ok (.istore_n 3, 1) := by decide +kernel
theorem md_K_inverse_4 : decode prog_3_method_5_code 4 = .ok (.iload_n 1, 1) := by decide +kernel
theorem md_K_inverse_5 : decode prog_3_method_5_code 5 = .ok (.iconst 2, 1) := by decide +kernel
theorem md_K_inverse_6 : decode prog_3_method_5_code 6 = .ok (.isub, 1) := by decide +kernel
theorem md_K_inverse_7 : decode prog_3_method_5_code 7 = .ok (.istore 4, 2) := by decide +kernel
theorem md_K_inverse_9 : decode prog_3_method_5_code 9 = .ok (.iload 4, 2) := by decide +kernel
theorem md_K_inverse_11 : decode prog_3_method_5_code 11 = .ok (.ifCond .le 36, 3) := by decide +kernel
theorem md_K_inverse_47 : decode prog_3_method_5_code 47 = .ok (.iload_n 2, 1) := by decide +kernel
theorem md_K_inverse_48 : decode prog_3_method_5_code 48 = .ok (.ireturn, 1) := by decide +kernel
theorem md_K_inverse_14 : decode prog_3_method_5_code 14 = .ok (.iload 4, 2) := by decide +kernel
theorem md_K_inverse_16 : decode prog_3_method_5_code 16 = .ok (.iconst 1, 1) := by decide +kernel
theorem md_K_inverse_17 : decode prog_3_method_5_code 17 = .ok (.iand, 1) := by decide +kernel
theorem md_K_inverse_18 : decode prog_3_method_5_code 18 = .ok (.iconst 1, 1) := by decide +kernel
theorem md_K_inverse_19 : decode prog_3_method_5_code 19 = .ok (.if_icmp .ne 11, 3) := by decide +kernel
theorem md_K_inverse_30 : decode prog_3_method_5_code 30 = .ok (.iload_n 3, 1) := by decide +kernel
theorem md_K_inverse_31 : decode prog_3_method_5_code 31 = .ok (.iload_n 3, 1) := by decide +kernel
theorem md_K_inverse_32 : decode prog_3_method_5_code 32 = .ok (.imul, 1) := by decide +kernel
theorem md_K_inverse_33 : decode prog_3_method_5_code 33 = .ok (.iload_n 1, 1) := by decide +kernel
theorem md_K_inverse_34 : decode prog_3_method_5_code 34 = .ok (.invokestatic 7, 3) := by decide +kernel
theorem md_K_inverse_37 : decode prog_3_method_5_code 37 = .ok (.istore_n 3, 1) := by decide +kernel
theorem md_K_inverse_38 : decode prog_3_method_5_code 38 = .ok (.iload 4, 2) := by decide +kernel
theorem md_K_inverse_40 : decode prog_3_method_5_code 40 = .ok (.iconst 1, 1) := by decide +kernel
theorem md_K_inverse_41 : decode prog_3_method_5_code 41 = .ok (.ishr, 1) := by decide +kernel
theorem md_K_inverse_42 : decode prog_3_method_5_code 42 = .ok (.istore 4, 2) := by decide +kernel
theorem md_K_inverse_44 : decode prog_3_method_5_code 44 = .ok (.goto (-35), 3) := by decide +kernel
theorem md_K_inverse_22 : decode prog_3_method_5_code 22 = .ok (.iload_n 2, 1) := by decide +kernel
theorem md_K_inverse_23 : decode prog_3_method_5_code 23 = .ok (.iload_n 3, 1) := by decide +kernel
theorem md_K_inverse_24 : decode prog_3_method_5_code 24 = .ok (.imul, 1) := by decide +kernel
theorem md_K_inverse_25 : decode prog_3_method_5_code 25 = .ok (.iload_n 1, 1) := by decide +kernel
theorem md_K_inverse_26 : decode prog_3_method_5_code 26 = .ok (.invokestatic 7, 3) := by decide +kernel
theorem md_K_inverse_29 : decode prog_3_method_5_code 29 = .ok (.istore_n 2, 1) := by decide +kernel
def mj_K_inverse_30 (r9 : Int → Int → Int → Int → pw_Sto → Option (Int × pw_Sto)) (x1 : Int) (x2 : Int) (x3 : Int) (x4 : Int) (σ : pw_Sto) : Option (Int × pw_Sto) := pw_bd (mf_K_reduce (x3 * x3) x1 σ) (fun v2 s1 => (pw_shr x4).bind (fun v3 => r9 x1 x2 v2 v3 s1))
def mb_K_inverse_9 (rc : Int → Int → Int → Int → pw_Sto → Option (Int × pw_Sto)) : Int → Int → Int → Int → pw_Sto → Option (Int × pw_Sto) := fun x1 x2 x3 x4 σ => pw_ck x4 0 (if x4 ≤ 0 then some (x2, σ) else pw_ck (x4 % 2) (1 : Int) (if (x4 % 2) = (1 : Int) then pw_bd (mf_K_reduce (x2 * x3) x1 σ) (fun v5 s4 => mj_K_inverse_30 rc x1 v5 x3 x4 s4) else mj_K_inverse_30 rc x1 x2 x3 x4 σ))
def ml_K_inverse_9 : Nat → Int → Int → Int → Int → pw_Sto → Option (Int × pw_Sto) := pw_lp (fun _ _ _ _ _ => none) (mb_K_inverse_9)
def mf_K_inverse (x0 : Int) (x1 : Int) (σ : pw_Sto) : Option (Int × pw_Sto) := ml_K_inverse_9 1000 x1 (1 : Int) x0 (x1 - (2 : Int)) σ
set_option maxHeartbeats 4000000 in
set_option maxRecDepth 20000 in
theorem sj_K_inverse_30 {X : pw_X Int} (hX : pw_Ok X prog_3_method_5_code "PadeWorkbench$Field" mr_K_inverse 5) (hR : pw_RI X prog_3_method_5_code) {r9 : Int → Int → Int → Int → pw_Sto → Option (Int × pw_Sto)} (h9 : ∀ (z0 : Int) (z1 : Int) (z2 : Int) (z3 : Int) (σ : pw_Sto), pw_Sp X 0 0 9 [(1, Value.int (iI z0)), (2, Value.int (iI z1)), (3, Value.int (iI z2)), (4, Value.int (iI z3))] [] σ (r9 z0 z1 z2 z3 σ)) (x1 : Int) (x2 : Int) (x3 : Int) (x4 : Int) (σ : pw_Sto) : pw_Sp X 0 0 30 [(1, Value.int (iI x1)), (2, Value.int (iI x2)), (3, Value.int (iI x3)), (4, Value.int (iI x4))] [] σ (mj_K_inverse_30 r9 x1 x2 x3 x4 σ) := by
  unfold mj_K_inverse_30
  refine sp_iload_n (pc := 30) (k := 3) (i := 3) hX rfl 2 rfl md_K_inverse_30 ?_
  refine sp_iload_n (pc := 31) (k := 3) (i := 3) hX rfl 2 rfl md_K_inverse_31 ?_
  refine sp_imul (pc := 32) hX md_K_inverse_32 ?_
  refine sp_iload_n (pc := 33) (k := 1) (i := 1) hX rfl 0 rfl md_K_inverse_33 ?_
  refine sp_callSI (pc := 34) (y := my_K_reduce) (ccy := prog_3_method_2_code) (nLy := 2) (ret := (some .int)) (rmy := mr_K_reduce) (n := 2) (idx := 7) (As := [.int (iI (x3 * x3)), .int (iI x1)]) (st := []) (cells' := 0) (slots' := 0) hX (fun _ h => mc_K_reduce h) mk_K_reduce mq_373 mq_400 ⟨(Nat.le_of_ble_eq_true rfl), (Nat.le_of_ble_eq_true rfl)⟩ rfl rfl (Nat.le_of_ble_eq_true rfl) ⟨(Nat.le_of_ble_eq_true rfl), (Nat.le_of_ble_eq_true rfl)⟩ rfl rfl md_K_inverse_34 (fun v2 s1 => ?_)
  refine sp_istore_n (pc := 37) (k := 3) (i := 3) (L' := [(3, Value.int (iI v2)), (1, Value.int (iI x1)), (2, Value.int (iI x2)), (4, Value.int (iI x4))]) hX rfl (by decide) rfl md_K_inverse_37 ?_
  refine sp_iload (pc := 38) (i := 4) hX 3 rfl md_K_inverse_38 ?_
  refine sp_iconst (pc := 40) hX md_K_inverse_40 ?_
  refine sp_ishr (pc := 41) hX md_K_inverse_41 (fun v3 => ?_)
  refine sp_istore (pc := 42) (i := 4) (L' := [(4, Value.int (iI v3)), (3, Value.int (iI v2)), (1, Value.int (iI x1)), (2, Value.int (iI x2))]) hX (by decide) rfl md_K_inverse_42 ?_
  refine sp_goto (pc := 44) hX 9 (by decide) md_K_inverse_44 ?_
  refine sp_sub [2, 3, 1, 0] (L' := [(1, Value.int (iI x1)), (2, Value.int (iI x2)), (3, Value.int (iI v2)), (4, Value.int (iI v3))]) rfl ?_
  exact h9 x1 x2 v2 v3 s1
set_option maxHeartbeats 4000000 in
set_option maxRecDepth 20000 in
theorem sl_K_inverse_9 {X : pw_X Int} (hX : pw_Ok X prog_3_method_5_code "PadeWorkbench$Field" mr_K_inverse 5) (hR : pw_RI X prog_3_method_5_code) : ∀ (n : Nat) (x1 : Int) (x2 : Int) (x3 : Int) (x4 : Int) (σ : pw_Sto), pw_Sp X 0 0 9 [(1, Value.int (iI x1)), (2, Value.int (iI x2)), (3, Value.int (iI x3)), (4, Value.int (iI x4))] [] σ (ml_K_inverse_9 n x1 x2 x3 x4 σ) := by
  intro n
  induction n with
  | zero => intros; exact pw_none
  | succ n ih =>
    intro x1 x2 x3 x4 σ
    show pw_Sp X 0 0 9 _ _ σ (mb_K_inverse_9 (ml_K_inverse_9 n) x1 x2 x3 x4 σ)
    unfold mb_K_inverse_9
    refine sp_iload (pc := 9) (i := 4) hX 3 rfl md_K_inverse_9 ?_
    refine sp_if_le (pc := 11) hX 47 (by decide) md_K_inverse_11 (fun _ => ?_) (fun _ => ?_)
    · refine sp_iload_n (pc := 47) (k := 2) (i := 2) hX rfl 1 rfl md_K_inverse_47 ?_
      exact sp_iret (pc := 48) hX hR rfl (Nat.le_of_ble_eq_true rfl) md_K_inverse_48
    · refine sp_iload (pc := 14) (i := 4) hX 3 rfl md_K_inverse_14 ?_
      refine sp_iconst (pc := 16) hX md_K_inverse_16 ?_
      refine sp_iand1 (pc := 17) hX md_K_inverse_17 ?_
      refine sp_iconst (pc := 18) hX md_K_inverse_18 ?_
      refine sp_icmp_ne (pc := 19) hX 30 (by decide) md_K_inverse_19 (fun _ => ?_) (fun _ => ?_)
      · refine sp_iload_n (pc := 22) (k := 2) (i := 2) hX rfl 1 rfl md_K_inverse_22 ?_
        refine sp_iload_n (pc := 23) (k := 3) (i := 3) hX rfl 2 rfl md_K_inverse_23 ?_
        refine sp_imul (pc := 24) hX md_K_inverse_24 ?_
        refine sp_iload_n (pc := 25) (k := 1) (i := 1) hX rfl 0 rfl md_K_inverse_25 ?_
        refine sp_callSI (pc := 26) (y := my_K_reduce) (ccy := prog_3_method_2_code) (nLy := 2) (ret := (some .int)) (rmy := mr_K_reduce) (n := 2) (idx := 7) (As := [.int (iI (x2 * x3)), .int (iI x1)]) (st := []) (cells' := 0) (slots' := 0) hX (fun _ h => mc_K_reduce h) mk_K_reduce mq_373 mq_400 ⟨(Nat.le_of_ble_eq_true rfl), (Nat.le_of_ble_eq_true rfl)⟩ rfl rfl (Nat.le_of_ble_eq_true rfl) ⟨(Nat.le_of_ble_eq_true rfl), (Nat.le_of_ble_eq_true rfl)⟩ rfl rfl md_K_inverse_26 (fun v5 s4 => ?_)
        refine sp_istore_n (pc := 29) (k := 2) (i := 2) (L' := [(2, Value.int (iI v5)), (1, Value.int (iI x1)), (3, Value.int (iI x3)), (4, Value.int (iI x4))]) hX rfl (by decide) rfl md_K_inverse_29 ?_
        refine sp_sub [1, 0, 2, 3] (L' := [(1, Value.int (iI x1)), (2, Value.int (iI v5)), (3, Value.int (iI x3)), (4, Value.int (iI x4))]) rfl ?_
        exact sj_K_inverse_30 hX hR ih x1 v5 x3 x4 s4
      · exact sj_K_inverse_30 hX hR ih x1 x2 x3 x4 σ
set_option maxHeartbeats 4000000 in
set_option maxRecDepth 20000 in
theorem mc_K_inverse {l : Launch} {E : pw_E} {σ : pw_Sto} {x0 : Int} {x1 : Int} {out : Int × pw_Sto} (h : mf_K_inverse x0 x1 σ = some out) : pw_CI l E my_K_inverse prog_3_method_5_code 5 (some .int) mr_K_inverse [.int (iI x0), .int (iI x1)] σ out := by
  unfold mf_K_inverse at h
  refine pw_entryI (by decide) (Nat.le_of_ble_eq_true rfl) h (fun X hX hR hI => ?_)
  change pw_Ok X prog_3_method_5_code "PadeWorkbench$Field" mr_K_inverse 5 at hX
  show pw_Sp X 0 0 0 [(0, Value.int (iI x0)), (1, Value.int (iI x1))] [] σ _
  refine sp_iconst (pc := 0) hX md_K_inverse_0 ?_
  refine sp_istore_n (pc := 1) (k := 2) (i := 2) (L' := [(2, Value.int (iI (1 : Int))), (0, Value.int (iI x0)), (1, Value.int (iI x1))]) hX rfl (by decide) rfl md_K_inverse_1 ?_
  refine sp_iload_n (pc := 2) (k := 0) (i := 0) hX rfl 1 rfl md_K_inverse_2 ?_
  refine sp_istore_n (pc := 3) (k := 3) (i := 3) (L' := [(3, Value.int (iI x0)), (2, Value.int (iI (1 : Int))), (0, Value.int (iI x0)), (1, Value.int (iI x1))]) hX rfl (by decide) rfl md_K_inverse_3 ?_
  refine sp_iload_n (pc := 4) (k := 1) (i := 1) hX rfl 3 rfl md_K_inverse_4 ?_
  refine sp_iconst (pc := 5) hX md_K_inverse_5 ?_
  refine sp_isub (pc := 6) hX md_K_inverse_6 ?_
  refine sp_istore (pc := 7) (i := 4) (L' := [(4, Value.int (iI (x1 - (2 : Int)))), (3, Value.int (iI x0)), (2, Value.int (iI (1 : Int))), (0, Value.int (iI x0)), (1, Value.int (iI x1))]) hX (by decide) rfl md_K_inverse_7 ?_
  refine sp_sub [4, 2, 1, 0] (L' := [(1, Value.int (iI x1)), (2, Value.int (iI (1 : Int))), (3, Value.int (iI x0)), (4, Value.int (iI (x1 - (2 : Int))))]) rfl ?_
  exact sl_K_inverse_9 hX hR 1000 x1 (1 : Int) x0 (x1 - (2 : Int)) σ
/-! PadeWorkbench$Field.times(III)I -/
theorem md_K_times_0 : decode prog_3_method_4_code 0 = .ok (.iload_n 0, 1) := by decide +kernel
theorem md_K_times_1 : decode prog_3_method_4_code 1 = .ok (.iload_n 1, 1) := by decide +kernel
theorem md_K_times_2 : decode prog_3_method_4_code 2 = .ok (.imul, 1) := by decide +kernel
theorem md_K_times_3 : decode prog_3_method_4_code 3 = .ok (.iload_n 2, 1) := by decide +kernel
theorem md_K_times_4 : decode prog_3_method_4_code 4 = .ok (.invokestatic 7, 3) := by decide +kernel
theorem md_K_times_7 : decode prog_3_method_4_code 7 = .ok (.ireturn, 1) := by decide +kernel
def mf_K_times (x0 : Int) (x1 : Int) (x2 : Int) (σ : pw_Sto) : Option (Int × pw_Sto) := pw_bd (mf_K_reduce (x0 * x1) x2 σ) (fun v2 s1 => some (v2, s1))
set_option maxHeartbeats 4000000 in
set_option maxRecDepth 20000 in
theorem mc_K_times {l : Launch} {E : pw_E} {σ : pw_Sto} {x0 : Int} {x1 : Int} {x2 : Int} {out : Int × pw_Sto} (h : mf_K_times x0 x1 x2 σ = some out) : pw_CI l E my_K_times prog_3_method_4_code 3 (some .int) mr_K_times [.int (iI x0), .int (iI x1), .int (iI x2)] σ out := by
  unfold mf_K_times at h
  refine pw_entryI (by decide) (Nat.le_of_ble_eq_true rfl) h (fun X hX hR hI => ?_)
  change pw_Ok X prog_3_method_4_code "PadeWorkbench$Field" mr_K_times 3 at hX
  show pw_Sp X 0 0 0 [(0, Value.int (iI x0)), (1, Value.int (iI x1)), (2, Value.int (iI x2))] [] σ _
  refine sp_iload_n (pc := 0) (k := 0) (i := 0) hX rfl 0 rfl md_K_times_0 ?_
  refine sp_iload_n (pc := 1) (k := 1) (i := 1) hX rfl 1 rfl md_K_times_1 ?_
  refine sp_imul (pc := 2) hX md_K_times_2 ?_
  refine sp_iload_n (pc := 3) (k := 2) (i := 2) hX rfl 2 rfl md_K_times_3 ?_
  refine sp_callSI (pc := 4) (y := my_K_reduce) (ccy := prog_3_method_2_code) (nLy := 2) (ret := (some .int)) (rmy := mr_K_reduce) (n := 2) (idx := 7) (As := [.int (iI (x0 * x1)), .int (iI x2)]) (st := []) (cells' := 0) (slots' := 0) hX (fun _ h => mc_K_reduce h) mk_K_reduce mq_373 mq_400 ⟨(Nat.le_of_ble_eq_true rfl), (Nat.le_of_ble_eq_true rfl)⟩ rfl rfl (Nat.le_of_ble_eq_true rfl) ⟨(Nat.le_of_ble_eq_true rfl), (Nat.le_of_ble_eq_true rfl)⟩ rfl rfl md_K_times_4 (fun v2 s1 => ?_)
  exact sp_iret (pc := 7) hX hR rfl (Nat.le_of_ble_eq_true rfl) md_K_times_7
/-! PadeWorkbench$Field.negative(II)I -/
theorem md_K_negative_0 : decode prog_3_method_3_code 0 = .ok (.iload_n 0, 1) := by decide +kernel
theorem md_K_negative_1 : decode prog_3_method_3_code 1 = .ok (.ifCond .ne 7, 3) := by decide +kernel
theorem md_K_negative_8 : decode prog_3_method_3_code 8 = .ok (.iload_n 1, 1) := by decide +kernel
theorem md_K_negative_9 : decode prog_3_method_3_code 9 = .ok (.iload_n 0, 1) := by decide +kernel
theorem md_K_negative_10 : decode prog_3_method_3_code 10 = .ok (.isub, 1) := by decide +kernel
theorem md_K_negative_11 : decode prog_3_method_3_code 11 = .ok (.ireturn, 1) := by decide +kernel
theorem md_K_negative_4 : decode prog_3_method_3_code 4 = .ok (.iconst 0, 1) := by decide +kernel
theorem md_K_negative_5 : decode prog_3_method_3_code 5 = .ok (.goto 6, 3) := by decide +kernel
def mf_K_negative (x0 : Int) (x1 : Int) (σ : pw_Sto) : Option (Int × pw_Sto) := pw_ck x0 0 (if x0 = 0 then some ((0 : Int), σ) else some ((x1 - x0), σ))
set_option maxHeartbeats 4000000 in
set_option maxRecDepth 20000 in
theorem mc_K_negative {l : Launch} {E : pw_E} {σ : pw_Sto} {x0 : Int} {x1 : Int} {out : Int × pw_Sto} (h : mf_K_negative x0 x1 σ = some out) : pw_CI l E my_K_negative prog_3_method_3_code 2 (some .int) mr_K_negative [.int (iI x0), .int (iI x1)] σ out := by
  unfold mf_K_negative at h
  refine pw_entryI (by decide) (Nat.le_of_ble_eq_true rfl) h (fun X hX hR hI => ?_)
  change pw_Ok X prog_3_method_3_code "PadeWorkbench$Field" mr_K_negative 2 at hX
  show pw_Sp X 0 0 0 [(0, Value.int (iI x0)), (1, Value.int (iI x1))] [] σ _
  refine sp_iload_n (pc := 0) (k := 0) (i := 0) hX rfl 0 rfl md_K_negative_0 ?_
  refine sp_if_ne (pc := 1) hX 8 (by decide) md_K_negative_1 (fun _ => ?_) (fun _ => ?_)
  · refine sp_iconst (pc := 4) hX md_K_negative_4 ?_
    refine sp_goto (pc := 5) hX 11 (by decide) md_K_negative_5 ?_
    exact sp_iret (pc := 11) hX hR rfl (Nat.le_of_ble_eq_true rfl) md_K_negative_11
  · refine sp_iload_n (pc := 8) (k := 1) (i := 1) hX rfl 1 rfl md_K_negative_8 ?_
    refine sp_iload_n (pc := 9) (k := 0) (i := 0) hX rfl 0 rfl md_K_negative_9 ?_
    refine sp_isub (pc := 10) hX md_K_negative_10 ?_
    exact sp_iret (pc := 11) hX hR rfl (Nat.le_of_ble_eq_true rfl) md_K_negative_11
/-! PadeWorkbench$Series.reciprocal([I[II)V -/
theorem md_S_reciprocal_0 : decode prog_10_method_4_code 0 = .ok (.aload_n 0, 1) := by decide +kernel
theorem md_S_reciprocal_1 : decode prog_10_method_4_code 1 = .ok (.iconst 0, 1) := by decide +kernel
theorem md_S_reciprocal_2 : decode prog_10_method_4_code 2 = .ok (.iaload, 1) := by decide +kernel
theorem md_S_reciprocal_3 : decode prog_10_method_4_code 3 = .ok (.iload_n 2, 1) := by decide +kernel
theorem md_S_reciprocal_4 : decode prog_10_method_4_code 4 = .ok (.invokestatic 15, 3) := by decide +kernel
theorem md_S_reciprocal_7 : decode prog_10_method_4_code 7 = .ok (.istore_n 3, 1) := by decide +kernel
theorem md_S_reciprocal_8 : decode prog_10_method_4_code 8 = .ok (.aload_n 1, 1) := by decide +kernel
theorem md_S_reciprocal_9 : decode prog_10_method_4_code 9 = .ok (.iconst 0, 1) := by decide +kernel
theorem md_S_reciprocal_10 : decode prog_10_method_4_code 10 = .ok (.iload_n 3, 1) := by decide +kernel
theorem md_S_reciprocal_11 : decode prog_10_method_4_code 11 = .ok (.iastore, 1) := by decide +kernel
theorem md_S_reciprocal_12 : decode prog_10_method_4_code 12 = .ok (.iconst 1, 1) := by decide +kernel
theorem md_S_reciprocal_13 : decode prog_10_method_4_code 13 = .ok (.istore 4, 2) := by decide +kernel
theorem md_S_reciprocal_15 : decode prog_10_method_4_code 15 = .ok (.iload 4, 2) := by decide +kernel
theorem md_S_reciprocal_17 : decode prog_10_method_4_code 17 = .ok (.bipush 16, 2) := by decide +kernel
theorem md_S_reciprocal_19 : decode prog_10_method_4_code 19 = .ok (.if_icmp .ge 64, 3) := by decide +kernel
theorem md_S_reciprocal_83 : decode prog_10_method_4_code 83 = .ok (.return_, 1) := by decide +kernel
theorem md_S_reciprocal_22 : decode prog_10_method_4_code 22 = .ok (.iconst 0, 1) := by decide +kernel
theorem md_S_reciprocal_23 : decode prog_10_method_4_code 23 = .ok (.istore 5, 2) := by decide +kernel
theorem md_S_reciprocal_25 : decode prog_10_method_4_code 25 = .ok (.iconst 1, 1) := by decide +kernel
theorem md_S_reciprocal_26 : decode prog_10_method_4_code 26 = .ok (.istore 6, 2) := by decide +kernel
theorem md_S_reciprocal_28 : decode prog_10_method_4_code 28 = .ok (.iload 6, 2) := by decide +kernel
theorem md_S_reciprocal_30 : decode prog_10_method_4_code 30 = .ok (.iload 4, 2) := by decide +kernel
theorem md_S_reciprocal_32 : decode prog_10_method_4_code 32 = .ok (.if_icmp .gt 26, 3) := by decide +kernel
theorem md_S_reciprocal_58 : decode prog_10_method_4_code 58 = .ok (.aload_n 1, 1) := by decide +kernel
theorem md_S_reciprocal_59 : decode prog_10_method_4_code 59 = .ok (.iload 4, 2) := by decide +kernel
theorem md_S_reciprocal_61 : decode prog_10_method_4_code 61 = .ok (.iload 5, 2) := by decide +kernel
theorem md_S_reciprocal_63 : decode prog_10_method_4_code 63 = .ok (.iload_n 2, 1) := by decide +kernel
theorem md_S_reciprocal_64 : decode prog_10_method_4_code 64 = .ok (.invokestatic 9, 3) := by decide +kernel
theorem md_S_reciprocal_67 : decode prog_10_method_4_code 67 = .ok (.iload_n 3, 1) := by decide +kernel
theorem md_S_reciprocal_68 : decode prog_10_method_4_code 68 = .ok (.iload_n 2, 1) := by decide +kernel
theorem md_S_reciprocal_69 : decode prog_10_method_4_code 69 = .ok (.invokestatic 18, 3) := by decide +kernel
theorem md_S_reciprocal_72 : decode prog_10_method_4_code 72 = .ok (.iload_n 2, 1) := by decide +kernel
theorem md_S_reciprocal_73 : decode prog_10_method_4_code 73 = .ok (.invokestatic 22, 3) := by decide +kernel
theorem md_S_reciprocal_76 : decode prog_10_method_4_code 76 = .ok (.iastore, 1) := by decide +kernel
theorem md_S_reciprocal_77 : decode prog_10_method_4_code 77 = .ok (.iinc 4 1, 3) := by decide +kernel
theorem md_S_reciprocal_80 : decode prog_10_method_4_code 80 = .ok (.goto (-65), 3) := by decide +kernel
theorem md_S_reciprocal_35 : decode prog_10_method_4_code 35 = .ok (.iload 5, 2) := by decide +kernel
theorem md_S_reciprocal_37 : decode prog_10_method_4_code 37 = .ok (.aload_n 0, 1) := by decide +kernel
theorem md_S_reciprocal_38 : decode prog_10_method_4_code 38 = .ok (.iload 6, 2) := by decide +kernel
theorem md_S_reciprocal_40 : decode prog_10_method_4_code 40 = .ok (.iaload, 1) := by decide +kernel
theorem md_S_reciprocal_41 : decode prog_10_method_4_code 41 = .ok (.aload_n 1, 1) := by decide +kernel
theorem md_S_reciprocal_42 : decode prog_10_method_4_code 42 = .ok (.iload 4, 2) := by decide +kernel
theorem md_S_reciprocal_44 : decode prog_10_method_4_code 44 = .ok (.iload 6, 2) := by decide +kernel
theorem md_S_reciprocal_46 : decode prog_10_method_4_code 46 = .ok (.isub, 1) := by decide +kernel
theorem md_S_reciprocal_47 : decode prog_10_method_4_code 47 = .ok (.iaload, 1) := by decide +kernel
theorem md_S_reciprocal_48 : decode prog_10_method_4_code 48 = .ok (.imul, 1) := by decide +kernel
theorem md_S_reciprocal_49 : decode prog_10_method_4_code 49 = .ok (.iadd, 1) := by decide +kernel
theorem md_S_reciprocal_50 : decode prog_10_method_4_code 50 = .ok (.istore 5, 2) := by decide +kernel
theorem md_S_reciprocal_52 : decode prog_10_method_4_code 52 = .ok (.iinc 6 1, 3) := by decide +kernel
theorem md_S_reciprocal_55 : decode prog_10_method_4_code 55 = .ok (.goto (-27), 3) := by decide +kernel
def mb_S_reciprocal_28 (r15 : Nat → Nat → Int → Int → Int → pw_Sto → Option (Unit × pw_Sto)) (rc : Nat → Nat → Int → Int → Int → Int → Int → pw_Sto → Option (Unit × pw_Sto)) : Nat → Nat → Int → Int → Int → Int → Int → pw_Sto → Option (Unit × pw_Sto) := fun x0 x1 x2 x3 x4 x5 x6 σ => pw_ck x6 x4 (if x4 < x6 then pw_bd (mf_K_reduce x5 x2 σ) (fun v6 s5 => pw_bd (mf_K_times v6 x3 x2 s5) (fun v8 s7 => pw_bd (mf_K_negative v8 x2 s7) (fun v10 s9 => (pw_si x1 x4 v10 s9).bind (fun s11 => r15 x0 x1 x2 x3 (x4 + 1) s11)))) else (pw_ai x0 x6 σ).bind (fun v12 => (pw_ai x1 (x4 - x6) σ).bind (fun v13 => rc x0 x1 x2 x3 x4 (x5 + (v12 * v13)) (x6 + 1) σ)))
def ml_S_reciprocal_28 (r15 : Nat → Nat → Int → Int → Int → pw_Sto → Option (Unit × pw_Sto)) : Nat → Nat → Nat → Int → Int → Int → Int → Int → pw_Sto → Option (Unit × pw_Sto) := pw_lp (fun _ _ _ _ _ _ _ _ => none) (mb_S_reciprocal_28 r15)
def mb_S_reciprocal_15 (rc : Nat → Nat → Int → Int → Int → pw_Sto → Option (Unit × pw_Sto)) : Nat → Nat → Int → Int → Int → pw_Sto → Option (Unit × pw_Sto) := fun x0 x1 x2 x3 x4 σ => pw_ck x4 (16 : Int) (if (16 : Int) ≤ x4 then some ((), σ) else ml_S_reciprocal_28 rc 1000 x0 x1 x2 x3 x4 (0 : Int) (1 : Int) σ)
def ml_S_reciprocal_15 : Nat → Nat → Nat → Int → Int → Int → pw_Sto → Option (Unit × pw_Sto) := pw_lp (fun _ _ _ _ _ _ => none) (mb_S_reciprocal_15)
def mf_S_reciprocal (x0 : Nat) (x1 : Nat) (x2 : Int) (σ : pw_Sto) : Option (Unit × pw_Sto) := (pw_ai x0 (0 : Int) σ).bind (fun v1 => pw_bd (mf_K_inverse v1 x2 σ) (fun v3 s2 => (pw_si x1 (0 : Int) v3 s2).bind (fun s4 => ml_S_reciprocal_15 1000 x0 x1 x2 v3 (1 : Int) s4)))
set_option maxHeartbeats 4000000 in
set_option maxRecDepth 20000 in
theorem sl_S_reciprocal_28 {X : pw_X Unit} (hX : pw_Ok X prog_10_method_4_code "PadeWorkbench$Series" mr_S_reciprocal 7) (hR : pw_RV X prog_10_method_4_code) {r15 : Nat → Nat → Int → Int → Int → pw_Sto → Option (Unit × pw_Sto)} (h15 : ∀ (z0 : Nat) (z1 : Nat) (z2 : Int) (z3 : Int) (z4 : Int) (σ : pw_Sto), pw_Sp X 0 0 15 [(0, Value.ref z0), (1, Value.ref z1), (2, Value.int (iI z2)), (3, Value.int (iI z3)), (4, Value.int (iI z4))] [] σ (r15 z0 z1 z2 z3 z4 σ)) : ∀ (n : Nat) (x0 : Nat) (x1 : Nat) (x2 : Int) (x3 : Int) (x4 : Int) (x5 : Int) (x6 : Int) (σ : pw_Sto), pw_Sp X 0 0 28 [(0, Value.ref x0), (1, Value.ref x1), (2, Value.int (iI x2)), (3, Value.int (iI x3)), (4, Value.int (iI x4)), (5, Value.int (iI x5)), (6, Value.int (iI x6))] [] σ (ml_S_reciprocal_28 r15 n x0 x1 x2 x3 x4 x5 x6 σ) := by
  intro n
  induction n with
  | zero => intros; exact pw_none
  | succ n ih =>
    intro x0 x1 x2 x3 x4 x5 x6 σ
    show pw_Sp X 0 0 28 _ _ σ (mb_S_reciprocal_28 r15 (ml_S_reciprocal_28 r15 n) x0 x1 x2 x3 x4 x5 x6 σ)
    unfold mb_S_reciprocal_28
    refine sp_iload (pc := 28) (i := 6) hX 6 rfl md_S_reciprocal_28 ?_
    refine sp_iload (pc := 30) (i := 4) hX 4 rfl md_S_reciprocal_30 ?_
    refine sp_icmp_gt (pc := 32) hX 58 (by decide) md_S_reciprocal_32 (fun _ => ?_) (fun _ => ?_)
    · refine sp_aload_n (pc := 58) (k := 1) (i := 1) hX rfl 1 rfl md_S_reciprocal_58 ?_
      refine sp_iload (pc := 59) (i := 4) hX 4 rfl md_S_reciprocal_59 ?_
      refine sp_iload (pc := 61) (i := 5) hX 5 rfl md_S_reciprocal_61 ?_
      refine sp_iload_n (pc := 63) (k := 2) (i := 2) hX rfl 2 rfl md_S_reciprocal_63 ?_
      refine sp_callSI (pc := 64) (y := my_K_reduce) (ccy := prog_3_method_2_code) (nLy := 2) (ret := (some .int)) (rmy := mr_K_reduce) (n := 2) (idx := 9) (As := [.int (iI x5), .int (iI x2)]) (st := [.int (iI x4), .ref x1]) (cells' := 0) (slots' := 0) hX (fun _ h => mc_K_reduce h) mk_K_reduce mq_373 mq_372 ⟨(Nat.le_of_ble_eq_true rfl), (Nat.le_of_ble_eq_true rfl)⟩ rfl rfl (Nat.le_of_ble_eq_true rfl) ⟨(Nat.le_of_ble_eq_true rfl), (Nat.le_of_ble_eq_true rfl)⟩ rfl rfl md_S_reciprocal_64 (fun v6 s5 => ?_)
      refine sp_iload_n (pc := 67) (k := 3) (i := 3) hX rfl 3 rfl md_S_reciprocal_67 ?_
      refine sp_iload_n (pc := 68) (k := 2) (i := 2) hX rfl 2 rfl md_S_reciprocal_68 ?_
      refine sp_callSI (pc := 69) (y := my_K_times) (ccy := prog_3_method_4_code) (nLy := 3) (ret := (some .int)) (rmy := mr_K_times) (n := 3) (idx := 18) (As := [.int (iI v6), .int (iI x3), .int (iI x2)]) (st := [.int (iI x4), .ref x1]) (cells' := 0) (slots' := 0) hX (fun _ h => mc_K_times h) mk_K_times mq_402 mq_401 ⟨(Nat.le_of_ble_eq_true rfl), (Nat.le_of_ble_eq_true rfl)⟩ rfl rfl (Nat.le_of_ble_eq_true rfl) ⟨(Nat.le_of_ble_eq_true rfl), (Nat.le_of_ble_eq_true rfl)⟩ rfl rfl md_S_reciprocal_69 (fun v8 s7 => ?_)
      refine sp_iload_n (pc := 72) (k := 2) (i := 2) hX rfl 2 rfl md_S_reciprocal_72 ?_
      refine sp_callSI (pc := 73) (y := my_K_negative) (ccy := prog_3_method_3_code) (nLy := 2) (ret := (some .int)) (rmy := mr_K_negative) (n := 2) (idx := 22) (As := [.int (iI v8), .int (iI x2)]) (st := [.int (iI x4), .ref x1]) (cells' := 0) (slots' := 0) hX (fun _ h => mc_K_negative h) mk_K_negative mq_405 mq_404 ⟨(Nat.le_of_ble_eq_true rfl), (Nat.le_of_ble_eq_true rfl)⟩ rfl rfl (Nat.le_of_ble_eq_true rfl) ⟨(Nat.le_of_ble_eq_true rfl), (Nat.le_of_ble_eq_true rfl)⟩ rfl rfl md_S_reciprocal_73 (fun v10 s9 => ?_)
      refine sp_iastore (pc := 76) hX md_S_reciprocal_76 (fun s11 => ?_)
      refine sp_iinc (pc := 77) (i := 4) (L' := [(4, Value.int (iI (x4 + 1))), (0, Value.ref x0), (1, Value.ref x1), (2, Value.int (iI x2)), (3, Value.int (iI x3)), (5, Value.int (iI x5)), (6, Value.int (iI x6))]) hX 4 rfl (by decide) rfl md_S_reciprocal_77 ?_
      refine sp_goto (pc := 80) hX 15 (by decide) md_S_reciprocal_80 ?_
      refine sp_sub [1, 2, 3, 4, 0] (L' := [(0, Value.ref x0), (1, Value.ref x1), (2, Value.int (iI x2)), (3, Value.int (iI x3)), (4, Value.int (iI (x4 + 1)))]) rfl ?_
      exact h15 x0 x1 x2 x3 (x4 + 1) s11
    · refine sp_iload (pc := 35) (i := 5) hX 5 rfl md_S_reciprocal_35 ?_
      refine sp_aload_n (pc := 37) (k := 0) (i := 0) hX rfl 0 rfl md_S_reciprocal_37 ?_
      refine sp_iload (pc := 38) (i := 6) hX 6 rfl md_S_reciprocal_38 ?_
      refine sp_iaload (pc := 40) hX md_S_reciprocal_40 (fun v12 => ?_)
      refine sp_aload_n (pc := 41) (k := 1) (i := 1) hX rfl 1 rfl md_S_reciprocal_41 ?_
      refine sp_iload (pc := 42) (i := 4) hX 4 rfl md_S_reciprocal_42 ?_
      refine sp_iload (pc := 44) (i := 6) hX 6 rfl md_S_reciprocal_44 ?_
      refine sp_isub (pc := 46) hX md_S_reciprocal_46 ?_
      refine sp_iaload (pc := 47) hX md_S_reciprocal_47 (fun v13 => ?_)
      refine sp_imul (pc := 48) hX md_S_reciprocal_48 ?_
      refine sp_iadd (pc := 49) hX md_S_reciprocal_49 ?_
      refine sp_istore (pc := 50) (i := 5) (L' := [(5, Value.int (iI (x5 + (v12 * v13)))), (0, Value.ref x0), (1, Value.ref x1), (2, Value.int (iI x2)), (3, Value.int (iI x3)), (4, Value.int (iI x4)), (6, Value.int (iI x6))]) hX (by decide) rfl md_S_reciprocal_50 ?_
      refine sp_iinc (pc := 52) (i := 6) (L' := [(6, Value.int (iI (x6 + 1))), (5, Value.int (iI (x5 + (v12 * v13)))), (0, Value.ref x0), (1, Value.ref x1), (2, Value.int (iI x2)), (3, Value.int (iI x3)), (4, Value.int (iI x4))]) hX 6 rfl (by decide) rfl md_S_reciprocal_52 ?_
      refine sp_goto (pc := 55) hX 28 (by decide) md_S_reciprocal_55 ?_
      refine sp_sub [2, 3, 4, 5, 6, 1, 0] (L' := [(0, Value.ref x0), (1, Value.ref x1), (2, Value.int (iI x2)), (3, Value.int (iI x3)), (4, Value.int (iI x4)), (5, Value.int (iI (x5 + (v12 * v13)))), (6, Value.int (iI (x6 + 1)))]) rfl ?_
      exact ih x0 x1 x2 x3 x4 (x5 + (v12 * v13)) (x6 + 1) σ
set_option maxHeartbeats 4000000 in
set_option maxRecDepth 20000 in
theorem sl_S_reciprocal_15 {X : pw_X Unit} (hX : pw_Ok X prog_10_method_4_code "PadeWorkbench$Series" mr_S_reciprocal 7) (hR : pw_RV X prog_10_method_4_code) : ∀ (n : Nat) (x0 : Nat) (x1 : Nat) (x2 : Int) (x3 : Int) (x4 : Int) (σ : pw_Sto), pw_Sp X 0 0 15 [(0, Value.ref x0), (1, Value.ref x1), (2, Value.int (iI x2)), (3, Value.int (iI x3)), (4, Value.int (iI x4))] [] σ (ml_S_reciprocal_15 n x0 x1 x2 x3 x4 σ) := by
  intro n
  induction n with
  | zero => intros; exact pw_none
  | succ n ih =>
    intro x0 x1 x2 x3 x4 σ
    show pw_Sp X 0 0 15 _ _ σ (mb_S_reciprocal_15 (ml_S_reciprocal_15 n) x0 x1 x2 x3 x4 σ)
    unfold mb_S_reciprocal_15
    refine sp_iload (pc := 15) (i := 4) hX 4 rfl md_S_reciprocal_15 ?_
    refine sp_bipush (pc := 17) hX (by decide) md_S_reciprocal_17 ?_
    refine sp_icmp_ge (pc := 19) hX 83 (by decide) md_S_reciprocal_19 (fun _ => ?_) (fun _ => ?_)
    · exact sp_vret (pc := 83) hX hR rfl (Nat.le_of_ble_eq_true rfl) md_S_reciprocal_83
    · refine sp_iconst (pc := 22) hX md_S_reciprocal_22 ?_
      refine sp_istore (pc := 23) (i := 5) (L' := [(5, Value.int (iI (0 : Int))), (0, Value.ref x0), (1, Value.ref x1), (2, Value.int (iI x2)), (3, Value.int (iI x3)), (4, Value.int (iI x4))]) hX (by decide) rfl md_S_reciprocal_23 ?_
      refine sp_iconst (pc := 25) hX md_S_reciprocal_25 ?_
      refine sp_istore (pc := 26) (i := 6) (L' := [(6, Value.int (iI (1 : Int))), (5, Value.int (iI (0 : Int))), (0, Value.ref x0), (1, Value.ref x1), (2, Value.int (iI x2)), (3, Value.int (iI x3)), (4, Value.int (iI x4))]) hX (by decide) rfl md_S_reciprocal_26 ?_
      refine sp_sub [2, 3, 4, 5, 6, 1, 0] (L' := [(0, Value.ref x0), (1, Value.ref x1), (2, Value.int (iI x2)), (3, Value.int (iI x3)), (4, Value.int (iI x4)), (5, Value.int (iI (0 : Int))), (6, Value.int (iI (1 : Int)))]) rfl ?_
      exact sl_S_reciprocal_28 hX hR ih 1000 x0 x1 x2 x3 x4 (0 : Int) (1 : Int) σ
set_option maxHeartbeats 4000000 in
set_option maxRecDepth 20000 in
theorem mc_S_reciprocal {l : Launch} {E : pw_E} {σ : pw_Sto} {x0 : Nat} {x1 : Nat} {x2 : Int} {out : Unit × pw_Sto} (h : mf_S_reciprocal x0 x1 x2 σ = some out) : pw_CV l E my_S_reciprocal prog_10_method_4_code 7 none mr_S_reciprocal [.ref x0, .ref x1, .int (iI x2)] σ out := by
  unfold mf_S_reciprocal at h
  refine pw_entryV (by decide) (Nat.le_of_ble_eq_true rfl) h (fun X hX hR hI => ?_)
  change pw_Ok X prog_10_method_4_code "PadeWorkbench$Series" mr_S_reciprocal 7 at hX
  show pw_Sp X 0 0 0 [(0, Value.ref x0), (1, Value.ref x1), (2, Value.int (iI x2))] [] σ _
  refine sp_aload_n (pc := 0) (k := 0) (i := 0) hX rfl 0 rfl md_S_reciprocal_0 ?_
  refine sp_iconst (pc := 1) hX md_S_reciprocal_1 ?_
  refine sp_iaload (pc := 2) hX md_S_reciprocal_2 (fun v1 => ?_)
  refine sp_iload_n (pc := 3) (k := 2) (i := 2) hX rfl 2 rfl md_S_reciprocal_3 ?_
  refine sp_callSI (pc := 4) (y := my_K_inverse) (ccy := prog_3_method_5_code) (nLy := 5) (ret := (some .int)) (rmy := mr_K_inverse) (n := 2) (idx := 15) (As := [.int (iI v1), .int (iI x2)]) (st := []) (cells' := 0) (slots' := 0) hX (fun _ h => mc_K_inverse h) mk_K_inverse mq_398 mq_397 ⟨(Nat.le_of_ble_eq_true rfl), (Nat.le_of_ble_eq_true rfl)⟩ rfl rfl (Nat.le_of_ble_eq_true rfl) ⟨(Nat.le_of_ble_eq_true rfl), (Nat.le_of_ble_eq_true rfl)⟩ rfl rfl md_S_reciprocal_4 (fun v3 s2 => ?_)
  refine sp_istore_n (pc := 7) (k := 3) (i := 3) (L' := [(3, Value.int (iI v3)), (0, Value.ref x0), (1, Value.ref x1), (2, Value.int (iI x2))]) hX rfl (by decide) rfl md_S_reciprocal_7 ?_
  refine sp_aload_n (pc := 8) (k := 1) (i := 1) hX rfl 2 rfl md_S_reciprocal_8 ?_
  refine sp_iconst (pc := 9) hX md_S_reciprocal_9 ?_
  refine sp_iload_n (pc := 10) (k := 3) (i := 3) hX rfl 0 rfl md_S_reciprocal_10 ?_
  refine sp_iastore (pc := 11) hX md_S_reciprocal_11 (fun s4 => ?_)
  refine sp_iconst (pc := 12) hX md_S_reciprocal_12 ?_
  refine sp_istore (pc := 13) (i := 4) (L' := [(4, Value.int (iI (1 : Int))), (3, Value.int (iI v3)), (0, Value.ref x0), (1, Value.ref x1), (2, Value.int (iI x2))]) hX (by decide) rfl md_S_reciprocal_13 ?_
  refine sp_sub [2, 3, 4, 1, 0] (L' := [(0, Value.ref x0), (1, Value.ref x1), (2, Value.int (iI x2)), (3, Value.int (iI v3)), (4, Value.int (iI (1 : Int)))]) rfl ?_
  exact sl_S_reciprocal_15 hX hR 1000 x0 x1 x2 v3 (1 : Int) s4
/-! PadeWorkbench$Series.slope([I[II)V -/
theorem md_S_slope_0 : decode prog_10_method_5_code 0 = .ok (.iconst 1, 1) := by decide +kernel
theorem md_S_slope_1 : decode prog_10_method_5_code 1 = .ok (.istore_n 3, 1) := by decide +kernel
theorem md_S_slope_2 : decode prog_10_method_5_code 2 = .ok (.iload_n 3, 1) := by decide +kernel
theorem md_S_slope_3 : decode prog_10_method_5_code 3 = .ok (.bipush 16, 2) := by decide +kernel
theorem md_S_slope_5 : decode prog_10_method_5_code 5 = .ok (.if_icmp .ge 22, 3) := by decide +kernel
theorem md_S_slope_27 : decode prog_10_method_5_code 27 = .ok (.aload_n 1, 1) := by decide +kernel
theorem md_S_slope_28 : decode prog_10_method_5_code 28 = .ok (.bipush 15, 2) := by decide +kernel
theorem md_S_slope_30 : decode prog_10_method_5_code 30 = .ok (.iconst 0, 1) := by decide +kernel
theorem md_S_slope_31 : decode prog_10_method_5_code 31 = .ok (.iastore, 1) := by decide +kernel
theorem md_S_slope_32 : decode prog_10_method_5_code 32 = .ok (.return_, 1) := by decide +kernel
theorem md_S_slope_8 : decode prog_10_method_5_code 8 = .ok (.aload_n 1, 1) := by decide +kernel
theorem md_S_slope_9 : decode prog_10_method_5_code 9 = .ok (.iload_n 3, 1) := by decide +kernel
theorem md_S_slope_10 : decode prog_10_method_5_code 10 = .ok (.iconst 1, 1) := by decide +kernel
theorem md_S_slope_11 : decode prog_10_method_5_code 11 = .ok (.isub, 1) := by decide +kernel
theorem md_S_slope_12 : decode prog_10_method_5_code 12 = .ok (.iload_n 3, 1) := by decide +kernel
theorem md_S_slope_13 : decode prog_10_method_5_code 13 = .ok (.aload_n 0, 1) := by decide +kernel
theorem md_S_slope_14 : decode prog_10_method_5_code 14 = .ok (.iload_n 3, 1) := by decide +kernel
theorem md_S_slope_15 : decode prog_10_method_5_code 15 = .ok (.iaload, 1) := by decide +kernel
theorem md_S_slope_16 : decode prog_10_method_5_code 16 = .ok (.iload_n 2, 1) := by decide +kernel
theorem md_S_slope_17 : decode prog_10_method_5_code 17 = .ok (.invokestatic 18, 3) := by decide +kernel
theorem md_S_slope_20 : decode prog_10_method_5_code 20 = .ok (.iastore, 1) := by decide +kernel
theorem md_S_slope_21 : decode prog_10_method_5_code 21 = .ok (.iinc 3 1, 3) := by decide +kernel
theorem md_S_slope_24 : decode prog_10_method_5_code 24 = .ok (.goto (-22), 3) := by decide +kernel
def mb_S_slope_2 (rc : Nat → Nat → Int → Int → pw_Sto → Option (Unit × pw_Sto)) : Nat → Nat → Int → Int → pw_Sto → Option (Unit × pw_Sto) := fun x0 x1 x2 x3 σ => pw_ck x3 (16 : Int) (if (16 : Int) ≤ x3 then (pw_si x1 (15 : Int) (0 : Int) σ).bind (fun s1 => some ((), s1)) else (pw_ai x0 x3 σ).bind (fun v2 => pw_bd (mf_K_times x3 v2 x2 σ) (fun v4 s3 => (pw_si x1 (x3 - (1 : Int)) v4 s3).bind (fun s5 => rc x0 x1 x2 (x3 + 1) s5))))
def ml_S_slope_2 : Nat → Nat → Nat → Int → Int → pw_Sto → Option (Unit × pw_Sto) := pw_lp (fun _ _ _ _ _ => none) (mb_S_slope_2)
def mf_S_slope (x0 : Nat) (x1 : Nat) (x2 : Int) (σ : pw_Sto) : Option (Unit × pw_Sto) := ml_S_slope_2 1000 x0 x1 x2 (1 : Int) σ
set_option maxHeartbeats 4000000 in
set_option maxRecDepth 20000 in
theorem sl_S_slope_2 {X : pw_X Unit} (hX : pw_Ok X prog_10_method_5_code "PadeWorkbench$Series" mr_S_slope 4) (hR : pw_RV X prog_10_method_5_code) : ∀ (n : Nat) (x0 : Nat) (x1 : Nat) (x2 : Int) (x3 : Int) (σ : pw_Sto), pw_Sp X 0 0 2 [(0, Value.ref x0), (1, Value.ref x1), (2, Value.int (iI x2)), (3, Value.int (iI x3))] [] σ (ml_S_slope_2 n x0 x1 x2 x3 σ) := by
  intro n
  induction n with
  | zero => intros; exact pw_none
  | succ n ih =>
    intro x0 x1 x2 x3 σ
    show pw_Sp X 0 0 2 _ _ σ (mb_S_slope_2 (ml_S_slope_2 n) x0 x1 x2 x3 σ)
    unfold mb_S_slope_2
    refine sp_iload_n (pc := 2) (k := 3) (i := 3) hX rfl 3 rfl md_S_slope_2 ?_
    refine sp_bipush (pc := 3) hX (by decide) md_S_slope_3 ?_
    refine sp_icmp_ge (pc := 5) hX 27 (by decide) md_S_slope_5 (fun _ => ?_) (fun _ => ?_)
    · refine sp_aload_n (pc := 27) (k := 1) (i := 1) hX rfl 1 rfl md_S_slope_27 ?_
      refine sp_bipush (pc := 28) hX (by decide) md_S_slope_28 ?_
      refine sp_iconst (pc := 30) hX md_S_slope_30 ?_
      refine sp_iastore (pc := 31) hX md_S_slope_31 (fun s1 => ?_)
      exact sp_vret (pc := 32) hX hR rfl (Nat.le_of_ble_eq_true rfl) md_S_slope_32
    · refine sp_aload_n (pc := 8) (k := 1) (i := 1) hX rfl 1 rfl md_S_slope_8 ?_
      refine sp_iload_n (pc := 9) (k := 3) (i := 3) hX rfl 3 rfl md_S_slope_9 ?_
      refine sp_iconst (pc := 10) hX md_S_slope_10 ?_
      refine sp_isub (pc := 11) hX md_S_slope_11 ?_
      refine sp_iload_n (pc := 12) (k := 3) (i := 3) hX rfl 3 rfl md_S_slope_12 ?_
      refine sp_aload_n (pc := 13) (k := 0) (i := 0) hX rfl 0 rfl md_S_slope_13 ?_
      refine sp_iload_n (pc := 14) (k := 3) (i := 3) hX rfl 3 rfl md_S_slope_14 ?_
      refine sp_iaload (pc := 15) hX md_S_slope_15 (fun v2 => ?_)
      refine sp_iload_n (pc := 16) (k := 2) (i := 2) hX rfl 2 rfl md_S_slope_16 ?_
      refine sp_callSI (pc := 17) (y := my_K_times) (ccy := prog_3_method_4_code) (nLy := 3) (ret := (some .int)) (rmy := mr_K_times) (n := 3) (idx := 18) (As := [.int (iI x3), .int (iI v2), .int (iI x2)]) (st := [.int (iI (x3 - (1 : Int))), .ref x1]) (cells' := 0) (slots' := 0) hX (fun _ h => mc_K_times h) mk_K_times mq_402 mq_401 ⟨(Nat.le_of_ble_eq_true rfl), (Nat.le_of_ble_eq_true rfl)⟩ rfl rfl (Nat.le_of_ble_eq_true rfl) ⟨(Nat.le_of_ble_eq_true rfl), (Nat.le_of_ble_eq_true rfl)⟩ rfl rfl md_S_slope_17 (fun v4 s3 => ?_)
      refine sp_iastore (pc := 20) hX md_S_slope_20 (fun s5 => ?_)
      refine sp_iinc (pc := 21) (i := 3) (L' := [(3, Value.int (iI (x3 + 1))), (0, Value.ref x0), (1, Value.ref x1), (2, Value.int (iI x2))]) hX 3 rfl (by decide) rfl md_S_slope_21 ?_
      refine sp_goto (pc := 24) hX 2 (by decide) md_S_slope_24 ?_
      refine sp_sub [1, 2, 3, 0] (L' := [(0, Value.ref x0), (1, Value.ref x1), (2, Value.int (iI x2)), (3, Value.int (iI (x3 + 1)))]) rfl ?_
      exact ih x0 x1 x2 (x3 + 1) s5
set_option maxHeartbeats 4000000 in
set_option maxRecDepth 20000 in
theorem mc_S_slope {l : Launch} {E : pw_E} {σ : pw_Sto} {x0 : Nat} {x1 : Nat} {x2 : Int} {out : Unit × pw_Sto} (h : mf_S_slope x0 x1 x2 σ = some out) : pw_CV l E my_S_slope prog_10_method_5_code 4 none mr_S_slope [.ref x0, .ref x1, .int (iI x2)] σ out := by
  unfold mf_S_slope at h
  refine pw_entryV (by decide) (Nat.le_of_ble_eq_true rfl) h (fun X hX hR hI => ?_)
  change pw_Ok X prog_10_method_5_code "PadeWorkbench$Series" mr_S_slope 4 at hX
  show pw_Sp X 0 0 0 [(0, Value.ref x0), (1, Value.ref x1), (2, Value.int (iI x2))] [] σ _
  refine sp_iconst (pc := 0) hX md_S_slope_0 ?_
  refine sp_istore_n (pc := 1) (k := 3) (i := 3) (L' := [(3, Value.int (iI (1 : Int))), (0, Value.ref x0), (1, Value.ref x1), (2, Value.int (iI x2))]) hX rfl (by decide) rfl md_S_slope_1 ?_
  refine sp_sub [1, 2, 3, 0] (L' := [(0, Value.ref x0), (1, Value.ref x1), (2, Value.int (iI x2)), (3, Value.int (iI (1 : Int)))]) rfl ?_
  exact sl_S_slope_2 hX hR 1000 x0 x1 x2 (1 : Int) σ
/-! PadeWorkbench$Field.over(III)I -/
theorem md_K_over_0 : decode prog_3_method_6_code 0 = .ok (.iload_n 0, 1) := by decide +kernel
theorem md_K_over_1 : decode prog_3_method_6_code 1 = .ok (.iload_n 1, 1) := by decide +kernel
theorem md_K_over_2 : decode prog_3_method_6_code 2 = .ok (.iload_n 2, 1) := by decide +kernel
theorem md_K_over_3 : decode prog_3_method_6_code 3 = .ok (.invokestatic 13, 3) := by decide +kernel
theorem md_K_over_6 : decode prog_3_method_6_code 6 = .ok (.iload_n 2, 1) := by decide +kernel
theorem md_K_over_7 : decode prog_3_method_6_code 7 = .ok (.invokestatic 16, 3) := by decide +kernel
theorem md_K_over_10 : decode prog_3_method_6_code 10 = .ok (.ireturn, 1) := by decide +kernel
def mf_K_over (x0 : Int) (x1 : Int) (x2 : Int) (σ : pw_Sto) : Option (Int × pw_Sto) := pw_bd (mf_K_inverse x1 x2 σ) (fun v2 s1 => pw_bd (mf_K_times x0 v2 x2 s1) (fun v4 s3 => some (v4, s3)))
set_option maxHeartbeats 4000000 in
set_option maxRecDepth 20000 in
theorem mc_K_over {l : Launch} {E : pw_E} {σ : pw_Sto} {x0 : Int} {x1 : Int} {x2 : Int} {out : Int × pw_Sto} (h : mf_K_over x0 x1 x2 σ = some out) : pw_CI l E my_K_over prog_3_method_6_code 3 (some .int) mr_K_over [.int (iI x0), .int (iI x1), .int (iI x2)] σ out := by
  unfold mf_K_over at h
  refine pw_entryI (by decide) (Nat.le_of_ble_eq_true rfl) h (fun X hX hR hI => ?_)
  change pw_Ok X prog_3_method_6_code "PadeWorkbench$Field" mr_K_over 3 at hX
  show pw_Sp X 0 0 0 [(0, Value.int (iI x0)), (1, Value.int (iI x1)), (2, Value.int (iI x2))] [] σ _
  refine sp_iload_n (pc := 0) (k := 0) (i := 0) hX rfl 0 rfl md_K_over_0 ?_
  refine sp_iload_n (pc := 1) (k := 1) (i := 1) hX rfl 1 rfl md_K_over_1 ?_
  refine sp_iload_n (pc := 2) (k := 2) (i := 2) hX rfl 2 rfl md_K_over_2 ?_
  refine sp_callSI (pc := 3) (y := my_K_inverse) (ccy := prog_3_method_5_code) (nLy := 5) (ret := (some .int)) (rmy := mr_K_inverse) (n := 2) (idx := 13) (As := [.int (iI x1), .int (iI x2)]) (st := [.int (iI x0)]) (cells' := 0) (slots' := 0) hX (fun _ h => mc_K_inverse h) mk_K_inverse mq_398 mq_608 ⟨(Nat.le_of_ble_eq_true rfl), (Nat.le_of_ble_eq_true rfl)⟩ rfl rfl (Nat.le_of_ble_eq_true rfl) ⟨(Nat.le_of_ble_eq_true rfl), (Nat.le_of_ble_eq_true rfl)⟩ rfl rfl md_K_over_3 (fun v2 s1 => ?_)
  refine sp_iload_n (pc := 6) (k := 2) (i := 2) hX rfl 2 rfl md_K_over_6 ?_
  refine sp_callSI (pc := 7) (y := my_K_times) (ccy := prog_3_method_4_code) (nLy := 3) (ret := (some .int)) (rmy := mr_K_times) (n := 3) (idx := 16) (As := [.int (iI x0), .int (iI v2), .int (iI x2)]) (st := []) (cells' := 0) (slots' := 0) hX (fun _ h => mc_K_times h) mk_K_times mq_402 mq_609 ⟨(Nat.le_of_ble_eq_true rfl), (Nat.le_of_ble_eq_true rfl)⟩ rfl rfl (Nat.le_of_ble_eq_true rfl) ⟨(Nat.le_of_ble_eq_true rfl), (Nat.le_of_ble_eq_true rfl)⟩ rfl rfl md_K_over_7 (fun v4 s3 => ?_)
  exact sp_iret (pc := 10) hX hR rfl (Nat.le_of_ble_eq_true rfl) md_K_over_10
/-! PadeWorkbench.isTerm(I)Z -/
theorem md_W_isTerm_0 : decode prog_1_method_39_code 0 = .ok (.iload_n 0, 1) := by decide +kernel
theorem md_W_isTerm_1 : decode prog_1_method_39_code 1 = .ok (.ifCond .lt 13, 3) := by decide +kernel
theorem md_W_isTerm_14 : decode prog_1_method_39_code 14 = .ok (.iconst 0, 1) := by decide +kernel
theorem md_W_isTerm_15 : decode prog_1_method_39_code 15 = .ok (.ireturn, 1) := by decide +kernel
theorem md_W_isTerm_4 : decode prog_1_method_39_code 4 = .ok (.iload_n 0, 1) := by decide +kernel
theorem md_W_isTerm_5 : decode prog_1_method_39_code 5 = .ok (.bipush 16, 2) := by decide +kernel
theorem md_W_isTerm_7 : decode prog_1_method_39_code 7 = .ok (.if_icmp .ge 7, 3) := by decide +kernel
theorem md_W_isTerm_10 : decode prog_1_method_39_code 10 = .ok (.iconst 1, 1) := by decide +kernel
theorem md_W_isTerm_11 : decode prog_1_method_39_code 11 = .ok (.goto 4, 3) := by decide +kernel
def mf_W_isTerm (x0 : Int) (σ : pw_Sto) : Option (Int × pw_Sto) := pw_ck x0 0 (if x0 < 0 then some ((0 : Int), σ) else pw_ck x0 (16 : Int) (if (16 : Int) ≤ x0 then some ((0 : Int), σ) else some ((1 : Int), σ)))
set_option maxHeartbeats 4000000 in
set_option maxRecDepth 20000 in
theorem mc_W_isTerm {l : Launch} {E : pw_E} {σ : pw_Sto} {x0 : Int} {out : Int × pw_Sto} (h : mf_W_isTerm x0 σ = some out) : pw_CI l E my_W_isTerm prog_1_method_39_code 1 (some .boolean) mr_W_isTerm [.int (iI x0)] σ out := by
  unfold mf_W_isTerm at h
  refine pw_entryZ (by decide) (Nat.le_of_ble_eq_true rfl) h (fun X hX hR hI => ?_)
  change pw_Ok X prog_1_method_39_code "PadeWorkbench" mr_W_isTerm 1 at hX
  show pw_Sp X 0 0 0 [(0, Value.int (iI x0))] [] σ _
  refine sp_iload_n (pc := 0) (k := 0) (i := 0) hX rfl 0 rfl md_W_isTerm_0 ?_
  refine sp_if_lt (pc := 1) hX 14 (by decide) md_W_isTerm_1 (fun _ => ?_) (fun _ => ?_)
  · refine sp_iconst (pc := 14) hX md_W_isTerm_14 ?_
    exact sp_zret (pc := 15) hX hR (by decide) rfl (Nat.le_of_ble_eq_true rfl) md_W_isTerm_15
  · refine sp_iload_n (pc := 4) (k := 0) (i := 0) hX rfl 0 rfl md_W_isTerm_4 ?_
    refine sp_bipush (pc := 5) hX (by decide) md_W_isTerm_5 ?_
    refine sp_icmp_ge (pc := 7) hX 14 (by decide) md_W_isTerm_7 (fun _ => ?_) (fun _ => ?_)
    · refine sp_iconst (pc := 14) hX md_W_isTerm_14 ?_
      exact sp_zret (pc := 15) hX hR (by decide) rfl (Nat.le_of_ble_eq_true rfl) md_W_isTerm_15
    · refine sp_iconst (pc := 10) hX md_W_isTerm_10 ?_
      refine sp_goto (pc := 11) hX 15 (by decide) md_W_isTerm_11 ?_
      exact sp_zret (pc := 15) hX hR (by decide) rfl (Nat.le_of_ble_eq_true rfl) md_W_isTerm_15
end
section
/-! PadeWorkbench$Polynomial.<init>()V -/
theorem md_P_init_0 : decode prog_7_method_1_code 0 = .ok (.aload_n 0, 1) := by decide +kernel
theorem md_P_init_1 : decode prog_7_method_1_code 1 = .ok (.invokespecial 3, 3) := by decide +kernel
theorem md_P_init_4 : decode prog_7_method_1_code 4 = .ok (.aload_n 0, 1) := by decide +kernel
theorem md_P_init_5 : decode prog_7_method_1_code 5 = .ok (.bipush 17, 2) := by decide +kernel
theorem md_P_init_7 : decode prog_7_method_1_code 7 = .ok (.newarray .int, 2) := by decide +kernel
theorem md_P_init_9 : decode prog_7_method_1_code 9 = .ok (.putfield 9, 3) := by decide +kernel
theorem md_P_init_12 : decode prog_7_method_1_code 12 = .ok (.aload_n 0, 1) := by decide +kernel
theorem md_P_init_13 : decode prog_7_method_1_code 13 = .ok (.iconst (-1), 1) := by decide +kernel
theorem md_P_init_14 : decode prog_7_method_1_code 14 = .ok (.putfield 15, 3) := by decide +kernel
theorem md_P_init_17 : decode prog_7_method_1_code 17 = .ok (.return_, 1) := by decide +kernel
def mf_P_init (x0 : Nat) (σ : pw_Sto) : Option (Unit × pw_Sto) := pw_bd (pw_na 17 σ) (fun v1 s2 => (pw_pr 4 x0 0 v1 s2).bind (fun s3 => (pw_pi 4 x0 1 (-1 : Int) s3).bind (fun s4 => some ((), s4))))
set_option maxHeartbeats 4000000 in
set_option maxRecDepth 20000 in
theorem mc_P_init {l : Launch} {E : pw_E} {σ : pw_Sto} {x0 : Nat} {out : Unit × pw_Sto} (h : mf_P_init x0 σ = some out) : pw_CV l E my_P_init prog_7_method_1_code 1 none mr_P_init [.ref x0] σ out := by
  unfold mf_P_init at h
  refine pw_entryV (by decide) (Nat.le_of_ble_eq_true rfl) h (fun X hX hR hI => ?_)
  change pw_Ok X prog_7_method_1_code "PadeWorkbench$Polynomial" mr_P_init 1 at hX
  show pw_Sp X 0 0 0 [(0, Value.ref x0)] [] σ _
  refine sp_aload_n (pc := 0) (k := 0) (i := 0) hX rfl 0 rfl md_P_init_0 ?_
  refine sp_objInit (pc := 1) (idx := 3) hX mq_186 mq_90 mq_91 (Nat.le_of_ble_eq_true rfl) (Nat.le_of_ble_eq_true rfl) md_P_init_1 ?_
  refine sp_aload_n (pc := 4) (k := 0) (i := 0) hX rfl 0 rfl md_P_init_4 ?_
  refine sp_bipush (pc := 5) hX (by decide) md_P_init_5 ?_
  refine sp_newa (pc := 7) (n := 17) (slots' := 17) hX mq_125 (Nat.le_of_ble_eq_true rfl) (Nat.le_of_ble_eq_true rfl) rfl md_P_init_7 (fun v1 s2 => ?_)
  refine sp_putRF (pc := 9) (ci := 4) (k := 0) (idx := 9) hX mcl_4 (by decide) mq_187 rfl rfl hI rfl mty_4_0 md_P_init_9 (fun s3 => ?_)
  refine sp_aload_n (pc := 12) (k := 0) (i := 0) hX rfl 0 rfl md_P_init_12 ?_
  refine sp_iconst (pc := 13) hX md_P_init_13 ?_
  refine sp_putI (pc := 14) (ci := 4) (k := 1) (idx := 15) hX mcl_4 (by decide) mq_191 rfl rfl rfl md_P_init_14 (fun s4 => ?_)
  exact sp_vret (pc := 17) hX hR rfl (Nat.le_of_ble_eq_true rfl) md_P_init_17
/-! PadeWorkbench$Polynomial.becomeZero()V -/
theorem md_P_becomeZero_0 : decode prog_7_method_2_code 0 = .ok (.aload_n 0, 1) := by decide +kernel
theorem md_P_becomeZero_1 : decode prog_7_method_2_code 1 = .ok (.getfield 9, 3) := by decide +kernel
theorem md_P_becomeZero_4 : decode prog_7_method_2_code 4 = .ok (.iconst 0, 1) := by decide +kernel
theorem md_P_becomeZero_5 : decode prog_7_method_2_code 5 = .ok (.invokestatic 19, 3) := by decide +kernel
theorem md_P_becomeZero_8 : decode prog_7_method_2_code 8 = .ok (.aload_n 0, 1) := by decide +kernel
theorem md_P_becomeZero_9 : decode prog_7_method_2_code 9 = .ok (.iconst (-1), 1) := by decide +kernel
theorem md_P_becomeZero_10 : decode prog_7_method_2_code 10 = .ok (.putfield 15, 3) := by decide +kernel
theorem md_P_becomeZero_13 : decode prog_7_method_2_code 13 = .ok (.return_, 1) := by decide +kernel
def mf_P_becomeZero (x0 : Nat) (σ : pw_Sto) : Option (Unit × pw_Sto) := pw_gd 4 x0 σ ((pw_gr 4 x0 0 σ).bind (fun v1 => pw_bd (mf_A_fill v1 (0 : Int) σ) (fun _ s2 => (pw_pi 4 x0 1 (-1 : Int) s2).bind (fun s3 => some ((), s3)))))
set_option maxHeartbeats 4000000 in
set_option maxRecDepth 20000 in
theorem mc_P_becomeZero {l : Launch} {E : pw_E} {σ : pw_Sto} {x0 : Nat} {out : Unit × pw_Sto} (h : mf_P_becomeZero x0 σ = some out) : pw_CV l E my_P_becomeZero prog_7_method_2_code 1 none mr_P_becomeZero [.ref x0] σ out := by
  unfold mf_P_becomeZero at h
  refine pw_entryV (by decide) (Nat.le_of_ble_eq_true rfl) (pw_gd_val h) (fun X hX hR hI => ?_)
  change pw_Ok X prog_7_method_2_code "PadeWorkbench$Polynomial" mr_P_becomeZero 1 at hX
  show pw_Sp X 0 0 0 [(0, Value.ref x0)] [] σ _
  refine sp_aload_n (pc := 0) (k := 0) (i := 0) hX rfl 0 rfl md_P_becomeZero_0 ?_
  refine sp_getR (pc := 1) (ci := 4) (k := 0) (idx := 9) hX mcl_4 (by decide) mq_187 rfl md_P_becomeZero_1 (fun v1 => ?_)
  refine sp_iconst (pc := 4) hX md_P_becomeZero_4 ?_
  refine sp_callSV (pc := 5) (y := my_A_fill) (ccy := prog_16_method_103_code) (nLy := 4) (ret := none) (rmy := mr_A_fill) (n := 2) (idx := 19) (As := [.ref v1, .int (iI (0 : Int))]) (st := []) (cells' := 0) (slots' := 0) hX (fun _ h => mc_A_fill h) mk_A_fill mq_345 mq_500 ⟨(Nat.le_of_ble_eq_true rfl), (Nat.le_of_ble_eq_true rfl)⟩ rfl rfl (Nat.le_of_ble_eq_true rfl) ⟨(Nat.le_of_ble_eq_true rfl), (Nat.le_of_ble_eq_true rfl)⟩ rfl rfl md_P_becomeZero_5 (fun s2 => ?_)
  refine sp_aload_n (pc := 8) (k := 0) (i := 0) hX rfl 0 rfl md_P_becomeZero_8 ?_
  refine sp_iconst (pc := 9) hX md_P_becomeZero_9 ?_
  refine sp_putI (pc := 10) (ci := 4) (k := 1) (idx := 15) hX mcl_4 (by decide) mq_191 rfl rfl rfl md_P_becomeZero_10 (fun s3 => ?_)
  exact sp_vret (pc := 13) hX hR rfl (Nat.le_of_ble_eq_true rfl) md_P_becomeZero_13
/-! PadeWorkbench$Polynomial.becomePower(I)V -/
theorem md_P_becomePower_0 : decode prog_7_method_3_code 0 = .ok (.aload_n 0, 1) := by decide +kernel
theorem md_P_becomePower_1 : decode prog_7_method_3_code 1 = .ok (.invokevirtual 25, 3) := by decide +kernel
theorem md_P_becomePower_4 : decode prog_7_method_3_code 4 = .ok (.iload_n 1, 1) := by decide +kernel
theorem md_P_becomePower_5 : decode prog_7_method_3_code 5 = .ok (.ifCond .lt 21, 3) := by decide +kernel
theorem md_P_becomePower_26 : decode prog_7_method_3_code 26 = .ok (.return_, 1) := by decide +kernel
theorem md_P_becomePower_8 : decode prog_7_method_3_code 8 = .ok (.iload_n 1, 1) := by decide +kernel
theorem md_P_becomePower_9 : decode prog_7_method_3_code 9 = .ok (.bipush 17, 2) := by decide +kernel
theorem md_P_becomePower_11 : decode prog_7_method_3_code 11 = .ok (.if_icmp .ge 15, 3) := by decide +kernel
theorem md_P_becomePower_14 : decode prog_7_method_3_code 14 = .ok (.aload_n 0, 1) := by decide +kernel
theorem md_P_becomePower_15 : decode prog_7_method_3_code 15 = .ok (.getfield 9, 3) := by decide +kernel
theorem md_P_becomePower_18 : decode prog_7_method_3_code 18 = .ok (.iload_n 1, 1) := by decide +kernel
theorem md_P_becomePower_19 : decode prog_7_method_3_code 19 = .ok (.iconst 1, 1) := by decide +kernel
theorem md_P_becomePower_20 : decode prog_7_method_3_code 20 = .ok (.iastore, 1) := by decide +kernel
theorem md_P_becomePower_21 : decode prog_7_method_3_code 21 = .ok (.aload_n 0, 1) := by decide +kernel
theorem md_P_becomePower_22 : decode prog_7_method_3_code 22 = .ok (.iload_n 1, 1) := by decide +kernel
theorem md_P_becomePower_23 : decode prog_7_method_3_code 23 = .ok (.putfield 15, 3) := by decide +kernel
def mf_P_becomePower (x0 : Nat) (x1 : Int) (σ : pw_Sto) : Option (Unit × pw_Sto) := pw_gd 4 x0 σ (pw_bd (mf_P_becomeZero x0 σ) (fun _ s1 => pw_ck x1 0 (if x1 < 0 then some ((), s1) else pw_ck x1 (17 : Int) (if (17 : Int) ≤ x1 then some ((), s1) else (pw_gr 4 x0 0 s1).bind (fun v2 => (pw_si v2 x1 (1 : Int) s1).bind (fun s3 => (pw_pi 4 x0 1 x1 s3).bind (fun s4 => some ((), s4))))))))
set_option maxHeartbeats 4000000 in
set_option maxRecDepth 20000 in
theorem mc_P_becomePower {l : Launch} {E : pw_E} {σ : pw_Sto} {x0 : Nat} {x1 : Int} {out : Unit × pw_Sto} (h : mf_P_becomePower x0 x1 σ = some out) : pw_CV l E my_P_becomePower prog_7_method_3_code 2 none mr_P_becomePower [.ref x0, .int (iI x1)] σ out := by
  unfold mf_P_becomePower at h
  refine pw_entryV (by decide) (Nat.le_of_ble_eq_true rfl) (pw_gd_val h) (fun X hX hR hI => ?_)
  change pw_Ok X prog_7_method_3_code "PadeWorkbench$Polynomial" mr_P_becomePower 2 at hX
  show pw_Sp X 0 0 0 [(0, Value.ref x0), (1, Value.int (iI x1))] [] σ _
  refine sp_aload_n (pc := 0) (k := 0) (i := 0) hX rfl 0 rfl md_P_becomePower_0 ?_
  refine sp_callVV (pc := 1) (y := my_P_becomeZero) (ccy := prog_7_method_2_code) (nLy := 1) (ret := none) (rmy := mr_P_becomeZero) (n := 0) (idx := 25) (As := []) (st := []) (o := x0) (cells' := 0) (slots' := 0) hX (fun _ h => mc_P_becomeZero h) mk_P_becomeZero mv_P_becomeZero mcl_4 (fun _ h => pw_gd_of h) mq_496 ⟨(Nat.le_of_ble_eq_true rfl), (Nat.le_of_ble_eq_true rfl)⟩ rfl rfl (Nat.le_of_ble_eq_true rfl) ⟨(Nat.le_of_ble_eq_true rfl), (Nat.le_of_ble_eq_true rfl)⟩ rfl rfl md_P_becomePower_1 (fun s1 => ?_)
  refine sp_iload_n (pc := 4) (k := 1) (i := 1) hX rfl 1 rfl md_P_becomePower_4 ?_
  refine sp_if_lt (pc := 5) hX 26 (by decide) md_P_becomePower_5 (fun _ => ?_) (fun _ => ?_)
  · exact sp_vret (pc := 26) hX hR rfl (Nat.le_of_ble_eq_true rfl) md_P_becomePower_26
  · refine sp_iload_n (pc := 8) (k := 1) (i := 1) hX rfl 1 rfl md_P_becomePower_8 ?_
    refine sp_bipush (pc := 9) hX (by decide) md_P_becomePower_9 ?_
    refine sp_icmp_ge (pc := 11) hX 26 (by decide) md_P_becomePower_11 (fun _ => ?_) (fun _ => ?_)
    · exact sp_vret (pc := 26) hX hR rfl (Nat.le_of_ble_eq_true rfl) md_P_becomePower_26
    · refine sp_aload_n (pc := 14) (k := 0) (i := 0) hX rfl 0 rfl md_P_becomePower_14 ?_
      refine sp_getR (pc := 15) (ci := 4) (k := 0) (idx := 9) hX mcl_4 (by decide) mq_187 rfl md_P_becomePower_15 (fun v2 => ?_)
      refine sp_iload_n (pc := 18) (k := 1) (i := 1) hX rfl 1 rfl md_P_becomePower_18 ?_
      refine sp_iconst (pc := 19) hX md_P_becomePower_19 ?_
      refine sp_iastore (pc := 20) hX md_P_becomePower_20 (fun s3 => ?_)
      refine sp_aload_n (pc := 21) (k := 0) (i := 0) hX rfl 0 rfl md_P_becomePower_21 ?_
      refine sp_iload_n (pc := 22) (k := 1) (i := 1) hX rfl 1 rfl md_P_becomePower_22 ?_
      refine sp_putI (pc := 23) (ci := 4) (k := 1) (idx := 15) hX mcl_4 (by decide) mq_191 rfl rfl rfl md_P_becomePower_23 (fun s4 => ?_)
      exact sp_vret (pc := 26) hX hR rfl (Nat.le_of_ble_eq_true rfl) md_P_becomePower_26
/-! PadeWorkbench$Polynomial.measure()V -/
theorem md_P_measure_0 : decode prog_7_method_6_code 0 = .ok (.aload_n 0, 1) := by decide +kernel
theorem md_P_measure_1 : decode prog_7_method_6_code 1 = .ok (.bipush 16, 2) := by decide +kernel
theorem md_P_measure_3 : decode prog_7_method_6_code 3 = .ok (.putfield 15, 3) := by decide +kernel
theorem md_P_measure_6 : decode prog_7_method_6_code 6 = .ok (.aload_n 0, 1) := by decide +kernel
theorem md_P_measure_7 : decode prog_7_method_6_code 7 = .ok (.getfield 15, 3) := by decide +kernel
theorem md_P_measure_10 : decode prog_7_method_6_code 10 = .ok (.ifCond .lt 28, 3) := by decide +kernel
theorem md_P_measure_38 : decode prog_7_method_6_code 38 = .ok (.return_, 1) := by decide +kernel
theorem md_P_measure_13 : decode prog_7_method_6_code 13 = .ok (.aload_n 0, 1) := by decide +kernel
theorem md_P_measure_14 : decode prog_7_method_6_code 14 = .ok (.getfield 9, 3) := by decide +kernel
theorem md_P_measure_17 : decode prog_7_method_6_code 17 = .ok (.aload_n 0, 1) := by decide +kernel
theorem md_P_measure_18 : decode prog_7_method_6_code 18 = .ok (.getfield 15, 3) := by decide +kernel
theorem md_P_measure_21 : decode prog_7_method_6_code 21 = .ok (.iaload, 1) := by decide +kernel
theorem md_P_measure_22 : decode prog_7_method_6_code 22 = .ok (.ifCond .ne 16, 3) := by decide +kernel
theorem md_P_measure_25 : decode prog_7_method_6_code 25 = .ok (.aload_n 0, 1) := by decide +kernel
theorem md_P_measure_26 : decode prog_7_method_6_code 26 = .ok (.dup, 1) := by decide +kernel
theorem md_P_measure_27 : decode prog_7_method_6_code 27 = .ok (.getfield 15, 3) := by decide +kernel
theorem md_P_measure_30 : decode prog_7_method_6_code 30 = .ok (.iconst 1, 1) := by decide +kernel
theorem md_P_measure_31 : decode prog_7_method_6_code 31 = .ok (.isub, 1) := by decide +kernel
theorem md_P_measure_32 : decode prog_7_method_6_code 32 = .ok (.putfield 15, 3) := by decide +kernel
theorem md_P_measure_35 : decode prog_7_method_6_code 35 = .ok (.goto (-29), 3) := by decide +kernel
def mb_P_measure_6 (rc : Nat → pw_Sto → Option (Unit × pw_Sto)) : Nat → pw_Sto → Option (Unit × pw_Sto) := fun x0 σ => (pw_gi 4 x0 1 σ).bind (fun v2 => pw_ck v2 0 (if v2 < 0 then some ((), σ) else (pw_gr 4 x0 0 σ).bind (fun v3 => (pw_gi 4 x0 1 σ).bind (fun v4 => (pw_ai v3 v4 σ).bind (fun v5 => pw_ck v5 0 (if v5 = 0 then (pw_gi 4 x0 1 σ).bind (fun v6 => (pw_pi 4 x0 1 (v6 - (1 : Int)) σ).bind (fun s7 => rc x0 s7)) else some ((), σ)))))))
def ml_P_measure_6 : Nat → Nat → pw_Sto → Option (Unit × pw_Sto) := pw_lp (fun _ _ => none) (mb_P_measure_6)
def mf_P_measure (x0 : Nat) (σ : pw_Sto) : Option (Unit × pw_Sto) := pw_gd 4 x0 σ ((pw_pi 4 x0 1 (16 : Int) σ).bind (fun s1 => ml_P_measure_6 1000 x0 s1))
set_option maxHeartbeats 4000000 in
set_option maxRecDepth 20000 in
theorem sl_P_measure_6 {X : pw_X Unit} (hX : pw_Ok X prog_7_method_6_code "PadeWorkbench$Polynomial" mr_P_measure 1) (hR : pw_RV X prog_7_method_6_code) : ∀ (n : Nat) (x0 : Nat) (σ : pw_Sto), pw_Sp X 0 0 6 [(0, Value.ref x0)] [] σ (ml_P_measure_6 n x0 σ) := by
  intro n
  induction n with
  | zero => intros; exact pw_none
  | succ n ih =>
    intro x0 σ
    show pw_Sp X 0 0 6 _ _ σ (mb_P_measure_6 (ml_P_measure_6 n) x0 σ)
    unfold mb_P_measure_6
    refine sp_aload_n (pc := 6) (k := 0) (i := 0) hX rfl 0 rfl md_P_measure_6 ?_
    refine sp_getI (pc := 7) (ci := 4) (k := 1) (idx := 15) hX mcl_4 (by decide) mq_191 rfl md_P_measure_7 (fun v2 => ?_)
    refine sp_if_lt (pc := 10) hX 38 (by decide) md_P_measure_10 (fun _ => ?_) (fun _ => ?_)
    · exact sp_vret (pc := 38) hX hR rfl (Nat.le_of_ble_eq_true rfl) md_P_measure_38
    · refine sp_aload_n (pc := 13) (k := 0) (i := 0) hX rfl 0 rfl md_P_measure_13 ?_
      refine sp_getR (pc := 14) (ci := 4) (k := 0) (idx := 9) hX mcl_4 (by decide) mq_187 rfl md_P_measure_14 (fun v3 => ?_)
      refine sp_aload_n (pc := 17) (k := 0) (i := 0) hX rfl 0 rfl md_P_measure_17 ?_
      refine sp_getI (pc := 18) (ci := 4) (k := 1) (idx := 15) hX mcl_4 (by decide) mq_191 rfl md_P_measure_18 (fun v4 => ?_)
      refine sp_iaload (pc := 21) hX md_P_measure_21 (fun v5 => ?_)
      refine sp_if_ne (pc := 22) hX 38 (by decide) md_P_measure_22 (fun _ => ?_) (fun _ => ?_)
      · refine sp_aload_n (pc := 25) (k := 0) (i := 0) hX rfl 0 rfl md_P_measure_25 ?_
        refine sp_dup (pc := 26) hX rfl md_P_measure_26 ?_
        refine sp_getI (pc := 27) (ci := 4) (k := 1) (idx := 15) hX mcl_4 (by decide) mq_191 rfl md_P_measure_27 (fun v6 => ?_)
        refine sp_iconst (pc := 30) hX md_P_measure_30 ?_
        refine sp_isub (pc := 31) hX md_P_measure_31 ?_
        refine sp_putI (pc := 32) (ci := 4) (k := 1) (idx := 15) hX mcl_4 (by decide) mq_191 rfl rfl rfl md_P_measure_32 (fun s7 => ?_)
        refine sp_goto (pc := 35) hX 6 (by decide) md_P_measure_35 ?_
        exact ih x0 s7
      · exact sp_vret (pc := 38) hX hR rfl (Nat.le_of_ble_eq_true rfl) md_P_measure_38
set_option maxHeartbeats 4000000 in
set_option maxRecDepth 20000 in
theorem mc_P_measure {l : Launch} {E : pw_E} {σ : pw_Sto} {x0 : Nat} {out : Unit × pw_Sto} (h : mf_P_measure x0 σ = some out) : pw_CV l E my_P_measure prog_7_method_6_code 1 none mr_P_measure [.ref x0] σ out := by
  unfold mf_P_measure at h
  refine pw_entryV (by decide) (Nat.le_of_ble_eq_true rfl) (pw_gd_val h) (fun X hX hR hI => ?_)
  change pw_Ok X prog_7_method_6_code "PadeWorkbench$Polynomial" mr_P_measure 1 at hX
  show pw_Sp X 0 0 0 [(0, Value.ref x0)] [] σ _
  refine sp_aload_n (pc := 0) (k := 0) (i := 0) hX rfl 0 rfl md_P_measure_0 ?_
  refine sp_bipush (pc := 1) hX (by decide) md_P_measure_1 ?_
  refine sp_putI (pc := 3) (ci := 4) (k := 1) (idx := 15) hX mcl_4 (by decide) mq_191 rfl rfl rfl md_P_measure_3 (fun s1 => ?_)
  exact sl_P_measure_6 hX hR 1000 x0 s1
/-! PadeWorkbench$Polynomial.becomeStart([II)V -/
theorem md_P_becomeStart_0 : decode prog_7_method_4_code 0 = .ok (.aload_n 0, 1) := by decide +kernel
theorem md_P_becomeStart_1 : decode prog_7_method_4_code 1 = .ok (.invokevirtual 25, 3) := by decide +kernel
theorem md_P_becomeStart_4 : decode prog_7_method_4_code 4 = .ok (.iconst 0, 1) := by decide +kernel
theorem md_P_becomeStart_5 : decode prog_7_method_4_code 5 = .ok (.istore_n 3, 1) := by decide +kernel
theorem md_P_becomeStart_6 : decode prog_7_method_4_code 6 = .ok (.iload_n 3, 1) := by decide +kernel
theorem md_P_becomeStart_7 : decode prog_7_method_4_code 7 = .ok (.iload_n 2, 1) := by decide +kernel
theorem md_P_becomeStart_8 : decode prog_7_method_4_code 8 = .ok (.if_icmp .gt 24, 3) := by decide +kernel
theorem md_P_becomeStart_32 : decode prog_7_method_4_code 32 = .ok (.aload_n 0, 1) := by decide +kernel
theorem md_P_becomeStart_33 : decode prog_7_method_4_code 33 = .ok (.invokevirtual 28, 3) := by decide +kernel
theorem md_P_becomeStart_36 : decode prog_7_method_4_code 36 = .ok (.return_, 1) := by decide +kernel
theorem md_P_becomeStart_11 : decode prog_7_method_4_code 11 = .ok (.iload_n 3, 1) := by decide +kernel
theorem md_P_becomeStart_12 : decode prog_7_method_4_code 12 = .ok (.bipush 16, 2) := by decide +kernel
theorem md_P_becomeStart_14 : decode prog_7_method_4_code 14 = .ok (.if_icmp .ge 18, 3) := by decide +kernel
theorem md_P_becomeStart_17 : decode prog_7_method_4_code 17 = .ok (.aload_n 0, 1) := by decide +kernel
theorem md_P_becomeStart_18 : decode prog_7_method_4_code 18 = .ok (.getfield 9, 3) := by decide +kernel
theorem md_P_becomeStart_21 : decode prog_7_method_4_code 21 = .ok (.iload_n 3, 1) := by decide +kernel
theorem md_P_becomeStart_22 : decode prog_7_method_4_code 22 = .ok (.aload_n 1, 1) := by decide +kernel
theorem md_P_becomeStart_23 : decode prog_7_method_4_code 23 = .ok (.iload_n 3, 1) := by decide +kernel
theorem md_P_becomeStart_24 : decode prog_7_method_4_code 24 = .ok (.iaload, 1) := by decide +kernel
theorem md_P_becomeStart_25 : decode prog_7_method_4_code 25 = .ok (.iastore, 1) := by decide +kernel
theorem md_P_becomeStart_26 : decode prog_7_method_4_code 26 = .ok (.iinc 3 1, 3) := by decide +kernel
theorem md_P_becomeStart_29 : decode prog_7_method_4_code 29 = .ok (.goto (-23), 3) := by decide +kernel
def mj_P_becomeStart_32 (x0 : Nat) (σ : pw_Sto) : Option (Unit × pw_Sto) := pw_bd (mf_P_measure x0 σ) (fun _ s2 => some ((), s2))
def mb_P_becomeStart_6 (rc : Nat → Nat → Int → Int → pw_Sto → Option (Unit × pw_Sto)) : Nat → Nat → Int → Int → pw_Sto → Option (Unit × pw_Sto) := fun x0 x1 x2 x3 σ => pw_ck x3 x2 (if x2 < x3 then mj_P_becomeStart_32 x0 σ else pw_ck x3 (16 : Int) (if (16 : Int) ≤ x3 then mj_P_becomeStart_32 x0 σ else (pw_gr 4 x0 0 σ).bind (fun v3 => (pw_ai x1 x3 σ).bind (fun v4 => (pw_si v3 x3 v4 σ).bind (fun s5 => rc x0 x1 x2 (x3 + 1) s5)))))
def ml_P_becomeStart_6 : Nat → Nat → Nat → Int → Int → pw_Sto → Option (Unit × pw_Sto) := pw_lp (fun _ _ _ _ _ => none) (mb_P_becomeStart_6)
def mf_P_becomeStart (x0 : Nat) (x1 : Nat) (x2 : Int) (σ : pw_Sto) : Option (Unit × pw_Sto) := pw_gd 4 x0 σ (pw_bd (mf_P_becomeZero x0 σ) (fun _ s1 => ml_P_becomeStart_6 1000 x0 x1 x2 (0 : Int) s1))
set_option maxHeartbeats 4000000 in
set_option maxRecDepth 20000 in
theorem sj_P_becomeStart_32 {X : pw_X Unit} (hX : pw_Ok X prog_7_method_4_code "PadeWorkbench$Polynomial" mr_P_becomeStart 4) (hR : pw_RV X prog_7_method_4_code) (x0 : Nat) (σ : pw_Sto) : pw_Sp X 0 0 32 [(0, Value.ref x0)] [] σ (mj_P_becomeStart_32 x0 σ) := by
  unfold mj_P_becomeStart_32
  refine sp_aload_n (pc := 32) (k := 0) (i := 0) hX rfl 0 rfl md_P_becomeStart_32 ?_
  refine sp_callVV (pc := 33) (y := my_P_measure) (ccy := prog_7_method_6_code) (nLy := 1) (ret := none) (rmy := mr_P_measure) (n := 0) (idx := 28) (As := []) (st := []) (o := x0) (cells' := 0) (slots' := 0) hX (fun _ h => mc_P_measure h) mk_P_measure mv_P_measure mcl_4 (fun _ h => pw_gd_of h) mq_505 ⟨(Nat.le_of_ble_eq_true rfl), (Nat.le_of_ble_eq_true rfl)⟩ rfl rfl (Nat.le_of_ble_eq_true rfl) ⟨(Nat.le_of_ble_eq_true rfl), (Nat.le_of_ble_eq_true rfl)⟩ rfl rfl md_P_becomeStart_33 (fun s2 => ?_)
  exact sp_vret (pc := 36) hX hR rfl (Nat.le_of_ble_eq_true rfl) md_P_becomeStart_36
set_option maxHeartbeats 4000000 in
set_option maxRecDepth 20000 in
theorem sl_P_becomeStart_6 {X : pw_X Unit} (hX : pw_Ok X prog_7_method_4_code "PadeWorkbench$Polynomial" mr_P_becomeStart 4) (hR : pw_RV X prog_7_method_4_code) : ∀ (n : Nat) (x0 : Nat) (x1 : Nat) (x2 : Int) (x3 : Int) (σ : pw_Sto), pw_Sp X 0 0 6 [(0, Value.ref x0), (1, Value.ref x1), (2, Value.int (iI x2)), (3, Value.int (iI x3))] [] σ (ml_P_becomeStart_6 n x0 x1 x2 x3 σ) := by
  intro n
  induction n with
  | zero => intros; exact pw_none
  | succ n ih =>
    intro x0 x1 x2 x3 σ
    show pw_Sp X 0 0 6 _ _ σ (mb_P_becomeStart_6 (ml_P_becomeStart_6 n) x0 x1 x2 x3 σ)
    unfold mb_P_becomeStart_6
    refine sp_iload_n (pc := 6) (k := 3) (i := 3) hX rfl 3 rfl md_P_becomeStart_6 ?_
    refine sp_iload_n (pc := 7) (k := 2) (i := 2) hX rfl 2 rfl md_P_becomeStart_7 ?_
    refine sp_icmp_gt (pc := 8) hX 32 (by decide) md_P_becomeStart_8 (fun _ => ?_) (fun _ => ?_)
    · refine sp_sub [0] (L' := [(0, Value.ref x0)]) rfl ?_
      exact sj_P_becomeStart_32 hX hR x0 σ
    · refine sp_iload_n (pc := 11) (k := 3) (i := 3) hX rfl 3 rfl md_P_becomeStart_11 ?_
      refine sp_bipush (pc := 12) hX (by decide) md_P_becomeStart_12 ?_
      refine sp_icmp_ge (pc := 14) hX 32 (by decide) md_P_becomeStart_14 (fun _ => ?_) (fun _ => ?_)
      · refine sp_sub [0] (L' := [(0, Value.ref x0)]) rfl ?_
        exact sj_P_becomeStart_32 hX hR x0 σ
      · refine sp_aload_n (pc := 17) (k := 0) (i := 0) hX rfl 0 rfl md_P_becomeStart_17 ?_
        refine sp_getR (pc := 18) (ci := 4) (k := 0) (idx := 9) hX mcl_4 (by decide) mq_187 rfl md_P_becomeStart_18 (fun v3 => ?_)
        refine sp_iload_n (pc := 21) (k := 3) (i := 3) hX rfl 3 rfl md_P_becomeStart_21 ?_
        refine sp_aload_n (pc := 22) (k := 1) (i := 1) hX rfl 1 rfl md_P_becomeStart_22 ?_
        refine sp_iload_n (pc := 23) (k := 3) (i := 3) hX rfl 3 rfl md_P_becomeStart_23 ?_
        refine sp_iaload (pc := 24) hX md_P_becomeStart_24 (fun v4 => ?_)
        refine sp_iastore (pc := 25) hX md_P_becomeStart_25 (fun s5 => ?_)
        refine sp_iinc (pc := 26) (i := 3) (L' := [(3, Value.int (iI (x3 + 1))), (0, Value.ref x0), (1, Value.ref x1), (2, Value.int (iI x2))]) hX 3 rfl (by decide) rfl md_P_becomeStart_26 ?_
        refine sp_goto (pc := 29) hX 6 (by decide) md_P_becomeStart_29 ?_
        refine sp_sub [1, 2, 3, 0] (L' := [(0, Value.ref x0), (1, Value.ref x1), (2, Value.int (iI x2)), (3, Value.int (iI (x3 + 1)))]) rfl ?_
        exact ih x0 x1 x2 (x3 + 1) s5
set_option maxHeartbeats 4000000 in
set_option maxRecDepth 20000 in
theorem mc_P_becomeStart {l : Launch} {E : pw_E} {σ : pw_Sto} {x0 : Nat} {x1 : Nat} {x2 : Int} {out : Unit × pw_Sto} (h : mf_P_becomeStart x0 x1 x2 σ = some out) : pw_CV l E my_P_becomeStart prog_7_method_4_code 4 none mr_P_becomeStart [.ref x0, .ref x1, .int (iI x2)] σ out := by
  unfold mf_P_becomeStart at h
  refine pw_entryV (by decide) (Nat.le_of_ble_eq_true rfl) (pw_gd_val h) (fun X hX hR hI => ?_)
  change pw_Ok X prog_7_method_4_code "PadeWorkbench$Polynomial" mr_P_becomeStart 4 at hX
  show pw_Sp X 0 0 0 [(0, Value.ref x0), (1, Value.ref x1), (2, Value.int (iI x2))] [] σ _
  refine sp_aload_n (pc := 0) (k := 0) (i := 0) hX rfl 0 rfl md_P_becomeStart_0 ?_
  refine sp_callVV (pc := 1) (y := my_P_becomeZero) (ccy := prog_7_method_2_code) (nLy := 1) (ret := none) (rmy := mr_P_becomeZero) (n := 0) (idx := 25) (As := []) (st := []) (o := x0) (cells' := 0) (slots' := 0) hX (fun _ h => mc_P_becomeZero h) mk_P_becomeZero mv_P_becomeZero mcl_4 (fun _ h => pw_gd_of h) mq_496 ⟨(Nat.le_of_ble_eq_true rfl), (Nat.le_of_ble_eq_true rfl)⟩ rfl rfl (Nat.le_of_ble_eq_true rfl) ⟨(Nat.le_of_ble_eq_true rfl), (Nat.le_of_ble_eq_true rfl)⟩ rfl rfl md_P_becomeStart_1 (fun s1 => ?_)
  refine sp_iconst (pc := 4) hX md_P_becomeStart_4 ?_
  refine sp_istore_n (pc := 5) (k := 3) (i := 3) (L' := [(3, Value.int (iI (0 : Int))), (0, Value.ref x0), (1, Value.ref x1), (2, Value.int (iI x2))]) hX rfl (by decide) rfl md_P_becomeStart_5 ?_
  refine sp_sub [1, 2, 3, 0] (L' := [(0, Value.ref x0), (1, Value.ref x1), (2, Value.int (iI x2)), (3, Value.int (iI (0 : Int)))]) rfl ?_
  exact sl_P_becomeStart_6 hX hR 1000 x0 x1 x2 (0 : Int) s1
/-! PadeWorkbench$Polynomial.gather(LPadeWorkbench$Polynomial;III)V -/
theorem md_P_gather_0 : decode prog_7_method_8_code 0 = .ok (.iload_n 2, 1) := by decide +kernel
theorem md_P_gather_1 : decode prog_7_method_8_code 1 = .ok (.ifCond .ne 4, 3) := by decide +kernel
theorem md_P_gather_5 : decode prog_7_method_8_code 5 = .ok (.iconst 0, 1) := by decide +kernel
theorem md_P_gather_6 : decode prog_7_method_8_code 6 = .ok (.istore 5, 2) := by decide +kernel
theorem md_P_gather_8 : decode prog_7_method_8_code 8 = .ok (.iload 5, 2) := by decide +kernel
theorem md_P_gather_10 : decode prog_7_method_8_code 10 = .ok (.aload_n 1, 1) := by decide +kernel
theorem md_P_gather_11 : decode prog_7_method_8_code 11 = .ok (.getfield 15, 3) := by decide +kernel
theorem md_P_gather_14 : decode prog_7_method_8_code 14 = .ok (.if_icmp .gt 51, 3) := by decide +kernel
theorem md_P_gather_65 : decode prog_7_method_8_code 65 = .ok (.return_, 1) := by decide +kernel
theorem md_P_gather_17 : decode prog_7_method_8_code 17 = .ok (.iload 5, 2) := by decide +kernel
theorem md_P_gather_19 : decode prog_7_method_8_code 19 = .ok (.iload_n 3, 1) := by decide +kernel
theorem md_P_gather_20 : decode prog_7_method_8_code 20 = .ok (.iadd, 1) := by decide +kernel
theorem md_P_gather_21 : decode prog_7_method_8_code 21 = .ok (.bipush 17, 2) := by decide +kernel
theorem md_P_gather_23 : decode prog_7_method_8_code 23 = .ok (.if_icmp .ge 42, 3) := by decide +kernel
theorem md_P_gather_26 : decode prog_7_method_8_code 26 = .ok (.aload_n 0, 1) := by decide +kernel
theorem md_P_gather_27 : decode prog_7_method_8_code 27 = .ok (.getfield 9, 3) := by decide +kernel
theorem md_P_gather_30 : decode prog_7_method_8_code 30 = .ok (.iload 5, 2) := by decide +kernel
theorem md_P_gather_32 : decode prog_7_method_8_code 32 = .ok (.iload_n 3, 1) := by decide +kernel
theorem md_P_gather_33 : decode prog_7_method_8_code 33 = .ok (.iadd, 1) := by decide +kernel
theorem md_P_gather_34 : decode prog_7_method_8_code 34 = .ok (.aload_n 0, 1) := by decide +kernel
theorem md_P_gather_35 : decode prog_7_method_8_code 35 = .ok (.getfield 9, 3) := by decide +kernel
theorem md_P_gather_38 : decode prog_7_method_8_code 38 = .ok (.iload 5, 2) := by decide +kernel
theorem md_P_gather_40 : decode prog_7_method_8_code 40 = .ok (.iload_n 3, 1) := by decide +kernel
theorem md_P_gather_41 : decode prog_7_method_8_code 41 = .ok (.iadd, 1) := by decide +kernel
theorem md_P_gather_42 : decode prog_7_method_8_code 42 = .ok (.iaload, 1) := by decide +kernel
theorem md_P_gather_43 : decode prog_7_method_8_code 43 = .ok (.iload_n 2, 1) := by decide +kernel
theorem md_P_gather_44 : decode prog_7_method_8_code 44 = .ok (.aload_n 1, 1) := by decide +kernel
theorem md_P_gather_45 : decode prog_7_method_8_code 45 = .ok (.getfield 9, 3) := by decide +kernel
theorem md_P_gather_48 : decode prog_7_method_8_code 48 = .ok (.iload 5, 2) := by decide +kernel
theorem md_P_gather_50 : decode prog_7_method_8_code 50 = .ok (.iaload, 1) := by decide +kernel
theorem md_P_gather_51 : decode prog_7_method_8_code 51 = .ok (.imul, 1) := by decide +kernel
theorem md_P_gather_52 : decode prog_7_method_8_code 52 = .ok (.iadd, 1) := by decide +kernel
theorem md_P_gather_53 : decode prog_7_method_8_code 53 = .ok (.iload 4, 2) := by decide +kernel
theorem md_P_gather_55 : decode prog_7_method_8_code 55 = .ok (.invokestatic 37, 3) := by decide +kernel
theorem md_P_gather_58 : decode prog_7_method_8_code 58 = .ok (.iastore, 1) := by decide +kernel
theorem md_P_gather_59 : decode prog_7_method_8_code 59 = .ok (.iinc 5 1, 3) := by decide +kernel
theorem md_P_gather_62 : decode prog_7_method_8_code 62 = .ok (.goto (-54), 3) := by decide +kernel
theorem md_P_gather_4 : decode prog_7_method_8_code 4 = .ok (.return_, 1) := by decide +kernel
def mb_P_gather_8 (rc : Nat → Nat → Int → Int → Int → Int → pw_Sto → Option (Unit × pw_Sto)) : Nat → Nat → Int → Int → Int → Int → pw_Sto → Option (Unit × pw_Sto) := fun x0 x1 x2 x3 x4 x5 σ => (pw_gi 4 x1 1 σ).bind (fun v1 => pw_ck x5 v1 (if v1 < x5 then some ((), σ) else pw_ck (x5 + x3) (17 : Int) (if (17 : Int) ≤ (x5 + x3) then some ((), σ) else (pw_gr 4 x0 0 σ).bind (fun v2 => (pw_gr 4 x0 0 σ).bind (fun v3 => (pw_ai v3 (x5 + x3) σ).bind (fun v4 => (pw_gr 4 x1 0 σ).bind (fun v5 => (pw_ai v5 x5 σ).bind (fun v6 => pw_bd (mf_K_reduce (v4 + (x2 * v6)) x4 σ) (fun v8 s7 => (pw_si v2 (x5 + x3) v8 s7).bind (fun s9 => rc x0 x1 x2 x3 x4 (x5 + 1) s9))))))))))
def ml_P_gather_8 : Nat → Nat → Nat → Int → Int → Int → Int → pw_Sto → Option (Unit × pw_Sto) := pw_lp (fun _ _ _ _ _ _ _ => none) (mb_P_gather_8)
def mf_P_gather (x0 : Nat) (x1 : Nat) (x2 : Int) (x3 : Int) (x4 : Int) (σ : pw_Sto) : Option (Unit × pw_Sto) := pw_gd 4 x0 σ (pw_ck x2 0 (if x2 = 0 then some ((), σ) else ml_P_gather_8 1000 x0 x1 x2 x3 x4 (0 : Int) σ))
set_option maxHeartbeats 4000000 in
set_option maxRecDepth 20000 in
theorem sl_P_gather_8 {X : pw_X Unit} (hX : pw_Ok X prog_7_method_8_code "PadeWorkbench$Polynomial" mr_P_gather 6) (hR : pw_RV X prog_7_method_8_code) : ∀ (n : Nat) (x0 : Nat) (x1 : Nat) (x2 : Int) (x3 : Int) (x4 : Int) (x5 : Int) (σ : pw_Sto), pw_Sp X 0 0 8 [(0, Value.ref x0), (1, Value.ref x1), (2, Value.int (iI x2)), (3, Value.int (iI x3)), (4, Value.int (iI x4)), (5, Value.int (iI x5))] [] σ (ml_P_gather_8 n x0 x1 x2 x3 x4 x5 σ) := by
  intro n
  induction n with
  | zero => intros; exact pw_none
  | succ n ih =>
    intro x0 x1 x2 x3 x4 x5 σ
    show pw_Sp X 0 0 8 _ _ σ (mb_P_gather_8 (ml_P_gather_8 n) x0 x1 x2 x3 x4 x5 σ)
    unfold mb_P_gather_8
    refine sp_iload (pc := 8) (i := 5) hX 5 rfl md_P_gather_8 ?_
    refine sp_aload_n (pc := 10) (k := 1) (i := 1) hX rfl 1 rfl md_P_gather_10 ?_
    refine sp_getI (pc := 11) (ci := 4) (k := 1) (idx := 15) hX mcl_4 (by decide) mq_191 rfl md_P_gather_11 (fun v1 => ?_)
    refine sp_icmp_gt (pc := 14) hX 65 (by decide) md_P_gather_14 (fun _ => ?_) (fun _ => ?_)
    · exact sp_vret (pc := 65) hX hR rfl (Nat.le_of_ble_eq_true rfl) md_P_gather_65
    · refine sp_iload (pc := 17) (i := 5) hX 5 rfl md_P_gather_17 ?_
      refine sp_iload_n (pc := 19) (k := 3) (i := 3) hX rfl 3 rfl md_P_gather_19 ?_
      refine sp_iadd (pc := 20) hX md_P_gather_20 ?_
      refine sp_bipush (pc := 21) hX (by decide) md_P_gather_21 ?_
      refine sp_icmp_ge (pc := 23) hX 65 (by decide) md_P_gather_23 (fun _ => ?_) (fun _ => ?_)
      · exact sp_vret (pc := 65) hX hR rfl (Nat.le_of_ble_eq_true rfl) md_P_gather_65
      · refine sp_aload_n (pc := 26) (k := 0) (i := 0) hX rfl 0 rfl md_P_gather_26 ?_
        refine sp_getR (pc := 27) (ci := 4) (k := 0) (idx := 9) hX mcl_4 (by decide) mq_187 rfl md_P_gather_27 (fun v2 => ?_)
        refine sp_iload (pc := 30) (i := 5) hX 5 rfl md_P_gather_30 ?_
        refine sp_iload_n (pc := 32) (k := 3) (i := 3) hX rfl 3 rfl md_P_gather_32 ?_
        refine sp_iadd (pc := 33) hX md_P_gather_33 ?_
        refine sp_aload_n (pc := 34) (k := 0) (i := 0) hX rfl 0 rfl md_P_gather_34 ?_
        refine sp_getR (pc := 35) (ci := 4) (k := 0) (idx := 9) hX mcl_4 (by decide) mq_187 rfl md_P_gather_35 (fun v3 => ?_)
        refine sp_iload (pc := 38) (i := 5) hX 5 rfl md_P_gather_38 ?_
        refine sp_iload_n (pc := 40) (k := 3) (i := 3) hX rfl 3 rfl md_P_gather_40 ?_
        refine sp_iadd (pc := 41) hX md_P_gather_41 ?_
        refine sp_iaload (pc := 42) hX md_P_gather_42 (fun v4 => ?_)
        refine sp_iload_n (pc := 43) (k := 2) (i := 2) hX rfl 2 rfl md_P_gather_43 ?_
        refine sp_aload_n (pc := 44) (k := 1) (i := 1) hX rfl 1 rfl md_P_gather_44 ?_
        refine sp_getR (pc := 45) (ci := 4) (k := 0) (idx := 9) hX mcl_4 (by decide) mq_187 rfl md_P_gather_45 (fun v5 => ?_)
        refine sp_iload (pc := 48) (i := 5) hX 5 rfl md_P_gather_48 ?_
        refine sp_iaload (pc := 50) hX md_P_gather_50 (fun v6 => ?_)
        refine sp_imul (pc := 51) hX md_P_gather_51 ?_
        refine sp_iadd (pc := 52) hX md_P_gather_52 ?_
        refine sp_iload (pc := 53) (i := 4) hX 4 rfl md_P_gather_53 ?_
        refine sp_callSI (pc := 55) (y := my_K_reduce) (ccy := prog_3_method_2_code) (nLy := 2) (ret := (some .int)) (rmy := mr_K_reduce) (n := 2) (idx := 37) (As := [.int (iI (v4 + (x2 * v6))), .int (iI x4)]) (st := [.int (iI (x5 + x3)), .ref v2]) (cells' := 0) (slots' := 0) hX (fun _ h => mc_K_reduce h) mk_K_reduce mq_373 mq_529 ⟨(Nat.le_of_ble_eq_true rfl), (Nat.le_of_ble_eq_true rfl)⟩ rfl rfl (Nat.le_of_ble_eq_true rfl) ⟨(Nat.le_of_ble_eq_true rfl), (Nat.le_of_ble_eq_true rfl)⟩ rfl rfl md_P_gather_55 (fun v8 s7 => ?_)
        refine sp_iastore (pc := 58) hX md_P_gather_58 (fun s9 => ?_)
        refine sp_iinc (pc := 59) (i := 5) (L' := [(5, Value.int (iI (x5 + 1))), (0, Value.ref x0), (1, Value.ref x1), (2, Value.int (iI x2)), (3, Value.int (iI x3)), (4, Value.int (iI x4))]) hX 5 rfl (by decide) rfl md_P_gather_59 ?_
        refine sp_goto (pc := 62) hX 8 (by decide) md_P_gather_62 ?_
        refine sp_sub [1, 2, 3, 4, 5, 0] (L' := [(0, Value.ref x0), (1, Value.ref x1), (2, Value.int (iI x2)), (3, Value.int (iI x3)), (4, Value.int (iI x4)), (5, Value.int (iI (x5 + 1)))]) rfl ?_
        exact ih x0 x1 x2 x3 x4 (x5 + 1) s9
set_option maxHeartbeats 4000000 in
set_option maxRecDepth 20000 in
theorem mc_P_gather {l : Launch} {E : pw_E} {σ : pw_Sto} {x0 : Nat} {x1 : Nat} {x2 : Int} {x3 : Int} {x4 : Int} {out : Unit × pw_Sto} (h : mf_P_gather x0 x1 x2 x3 x4 σ = some out) : pw_CV l E my_P_gather prog_7_method_8_code 6 none mr_P_gather [.ref x0, .ref x1, .int (iI x2), .int (iI x3), .int (iI x4)] σ out := by
  unfold mf_P_gather at h
  refine pw_entryV (by decide) (Nat.le_of_ble_eq_true rfl) (pw_gd_val h) (fun X hX hR hI => ?_)
  change pw_Ok X prog_7_method_8_code "PadeWorkbench$Polynomial" mr_P_gather 6 at hX
  show pw_Sp X 0 0 0 [(0, Value.ref x0), (1, Value.ref x1), (2, Value.int (iI x2)), (3, Value.int (iI x3)), (4, Value.int (iI x4))] [] σ _
  refine sp_iload_n (pc := 0) (k := 2) (i := 2) hX rfl 2 rfl md_P_gather_0 ?_
  refine sp_if_ne (pc := 1) hX 5 (by decide) md_P_gather_1 (fun _ => ?_) (fun _ => ?_)
  · exact sp_vret (pc := 4) hX hR rfl (Nat.le_of_ble_eq_true rfl) md_P_gather_4
  · refine sp_iconst (pc := 5) hX md_P_gather_5 ?_
    refine sp_istore (pc := 6) (i := 5) (L' := [(5, Value.int (iI (0 : Int))), (0, Value.ref x0), (1, Value.ref x1), (2, Value.int (iI x2)), (3, Value.int (iI x3)), (4, Value.int (iI x4))]) hX (by decide) rfl md_P_gather_6 ?_
    refine sp_sub [1, 2, 3, 4, 5, 0] (L' := [(0, Value.ref x0), (1, Value.ref x1), (2, Value.int (iI x2)), (3, Value.int (iI x3)), (4, Value.int (iI x4)), (5, Value.int (iI (0 : Int)))]) rfl ?_
    exact sl_P_gather_8 hX hR 1000 x0 x1 x2 x3 x4 (0 : Int) σ
/-! PadeWorkbench$Polynomial.copyFrom(LPadeWorkbench$Polynomial;)V -/
theorem md_P_copyFrom_0 : decode prog_7_method_5_code 0 = .ok (.aload_n 1, 1) := by decide +kernel
theorem md_P_copyFrom_1 : decode prog_7_method_5_code 1 = .ok (.getfield 9, 3) := by decide +kernel
theorem md_P_copyFrom_4 : decode prog_7_method_5_code 4 = .ok (.iconst 0, 1) := by decide +kernel
theorem md_P_copyFrom_5 : decode prog_7_method_5_code 5 = .ok (.aload_n 0, 1) := by decide +kernel
theorem md_P_copyFrom_6 : decode prog_7_method_5_code 6 = .ok (.getfield 9, 3) := by decide +kernel
theorem md_P_copyFrom_9 : decode prog_7_method_5_code 9 = .ok (.iconst 0, 1) := by decide +kernel
theorem md_P_copyFrom_10 : decode prog_7_method_5_code 10 = .ok (.bipush 17, 2) := by decide +kernel
theorem md_P_copyFrom_12 : decode prog_7_method_5_code 12 = .ok (.invokestatic 31, 3) := by decide +kernel
theorem md_P_copyFrom_15 : decode prog_7_method_5_code 15 = .ok (.aload_n 0, 1) := by decide +kernel
theorem md_P_copyFrom_16 : decode prog_7_method_5_code 16 = .ok (.aload_n 1, 1) := by decide +kernel
theorem md_P_copyFrom_17 : decode prog_7_method_5_code 17 = .ok (.getfield 15, 3) := by decide +kernel
theorem md_P_copyFrom_20 : decode prog_7_method_5_code 20 = .ok (.putfield 15, 3) := by decide +kernel
theorem md_P_copyFrom_23 : decode prog_7_method_5_code 23 = .ok (.return_, 1) := by decide +kernel
def mf_P_copyFrom (x0 : Nat) (x1 : Nat) (σ : pw_Sto) : Option (Unit × pw_Sto) := pw_gd 4 x0 σ ((pw_gr 4 x1 0 σ).bind (fun v1 => (pw_gr 4 x0 0 σ).bind (fun v2 => (pw_cp v1 (0 : Int) v2 (0 : Int) (17 : Int) σ).bind (fun s3 => (pw_gi 4 x1 1 s3).bind (fun v4 => (pw_pi 4 x0 1 v4 s3).bind (fun s5 => some ((), s5)))))))
set_option maxHeartbeats 4000000 in
set_option maxRecDepth 20000 in
theorem mc_P_copyFrom {l : Launch} {E : pw_E} {σ : pw_Sto} {x0 : Nat} {x1 : Nat} {out : Unit × pw_Sto} (h : mf_P_copyFrom x0 x1 σ = some out) : pw_CV l E my_P_copyFrom prog_7_method_5_code 2 none mr_P_copyFrom [.ref x0, .ref x1] σ out := by
  unfold mf_P_copyFrom at h
  refine pw_entryV (by decide) (Nat.le_of_ble_eq_true rfl) (pw_gd_val h) (fun X hX hR hI => ?_)
  change pw_Ok X prog_7_method_5_code "PadeWorkbench$Polynomial" mr_P_copyFrom 2 at hX
  show pw_Sp X 0 0 0 [(0, Value.ref x0), (1, Value.ref x1)] [] σ _
  refine sp_aload_n (pc := 0) (k := 1) (i := 1) hX rfl 1 rfl md_P_copyFrom_0 ?_
  refine sp_getR (pc := 1) (ci := 4) (k := 0) (idx := 9) hX mcl_4 (by decide) mq_187 rfl md_P_copyFrom_1 (fun v1 => ?_)
  refine sp_iconst (pc := 4) hX md_P_copyFrom_4 ?_
  refine sp_aload_n (pc := 5) (k := 0) (i := 0) hX rfl 0 rfl md_P_copyFrom_5 ?_
  refine sp_getR (pc := 6) (ci := 4) (k := 0) (idx := 9) hX mcl_4 (by decide) mq_187 rfl md_P_copyFrom_6 (fun v2 => ?_)
  refine sp_iconst (pc := 9) hX md_P_copyFrom_9 ?_
  refine sp_bipush (pc := 10) hX (by decide) md_P_copyFrom_10 ?_
  refine sp_copy (pc := 12) (idx := 31) hX mq_543 mq_339 mq_338 mq_80 (Nat.le_of_ble_eq_true rfl) (Nat.le_of_ble_eq_true rfl) md_P_copyFrom_12 (fun s3 => ?_)
  refine sp_aload_n (pc := 15) (k := 0) (i := 0) hX rfl 0 rfl md_P_copyFrom_15 ?_
  refine sp_aload_n (pc := 16) (k := 1) (i := 1) hX rfl 1 rfl md_P_copyFrom_16 ?_
  refine sp_getI (pc := 17) (ci := 4) (k := 1) (idx := 15) hX mcl_4 (by decide) mq_191 rfl md_P_copyFrom_17 (fun v4 => ?_)
  refine sp_putI (pc := 20) (ci := 4) (k := 1) (idx := 15) hX mcl_4 (by decide) mq_191 rfl rfl rfl md_P_copyFrom_20 (fun s5 => ?_)
  exact sp_vret (pc := 23) hX hR rfl (Nat.le_of_ble_eq_true rfl) md_P_copyFrom_23
/-! PadeWorkbench$Polynomial.valueAt(II)I -/
theorem md_P_valueAt_0 : decode prog_7_method_7_code 0 = .ok (.iconst 0, 1) := by decide +kernel
theorem md_P_valueAt_1 : decode prog_7_method_7_code 1 = .ok (.istore_n 3, 1) := by decide +kernel
theorem md_P_valueAt_2 : decode prog_7_method_7_code 2 = .ok (.aload_n 0, 1) := by decide +kernel
theorem md_P_valueAt_3 : decode prog_7_method_7_code 3 = .ok (.getfield 15, 3) := by decide +kernel
theorem md_P_valueAt_6 : decode prog_7_method_7_code 6 = .ok (.istore 4, 2) := by decide +kernel
theorem md_P_valueAt_8 : decode prog_7_method_7_code 8 = .ok (.iload 4, 2) := by decide +kernel
theorem md_P_valueAt_10 : decode prog_7_method_7_code 10 = .ok (.ifCond .lt 25, 3) := by decide +kernel
theorem md_P_valueAt_35 : decode prog_7_method_7_code 35 = .ok (.iload_n 3, 1) := by decide +kernel
theorem md_P_valueAt_36 : decode prog_7_method_7_code 36 = .ok (.ireturn, 1) := by decide +kernel
theorem md_P_valueAt_13 : decode prog_7_method_7_code 13 = .ok (.iload_n 3, 1) := by decide +kernel
theorem md_P_valueAt_14 : decode prog_7_method_7_code 14 = .ok (.iload_n 1, 1) := by decide +kernel
theorem md_P_valueAt_15 : decode prog_7_method_7_code 15 = .ok (.imul, 1) := by decide +kernel
theorem md_P_valueAt_16 : decode prog_7_method_7_code 16 = .ok (.aload_n 0, 1) := by decide +kernel
theorem md_P_valueAt_17 : decode prog_7_method_7_code 17 = .ok (.getfield 9, 3) := by decide +kernel
theorem md_P_valueAt_20 : decode prog_7_method_7_code 20 = .ok (.iload 4, 2) := by decide +kernel
theorem md_P_valueAt_22 : decode prog_7_method_7_code 22 = .ok (.iaload, 1) := by decide +kernel
theorem md_P_valueAt_23 : decode prog_7_method_7_code 23 = .ok (.iadd, 1) := by decide +kernel
theorem md_P_valueAt_24 : decode prog_7_method_7_code 24 = .ok (.iload_n 2, 1) := by decide +kernel
theorem md_P_valueAt_25 : decode prog_7_method_7_code 25 = .ok (.invokestatic 37, 3) := by decide +kernel
theorem md_P_valueAt_28 : decode prog_7_method_7_code 28 = .ok (.istore_n 3, 1) := by decide +kernel
theorem md_P_valueAt_29 : decode prog_7_method_7_code 29 = .ok (.iinc 4 (-1), 3) := by decide +kernel
theorem md_P_valueAt_32 : decode prog_7_method_7_code 32 = .ok (.goto (-24), 3) := by decide +kernel
def mb_P_valueAt_8 (rc : Nat → Int → Int → Int → Int → pw_Sto → Option (Int × pw_Sto)) : Nat → Int → Int → Int → Int → pw_Sto → Option (Int × pw_Sto) := fun x0 x1 x2 x3 x4 σ => pw_ck x4 0 (if x4 < 0 then some (x3, σ) else (pw_gr 4 x0 0 σ).bind (fun v2 => (pw_ai v2 x4 σ).bind (fun v3 => pw_bd (mf_K_reduce ((x3 * x1) + v3) x2 σ) (fun v5 s4 => rc x0 x1 x2 v5 (x4 + (-1)) s4))))
def ml_P_valueAt_8 : Nat → Nat → Int → Int → Int → Int → pw_Sto → Option (Int × pw_Sto) := pw_lp (fun _ _ _ _ _ _ => none) (mb_P_valueAt_8)
def mf_P_valueAt (x0 : Nat) (x1 : Int) (x2 : Int) (σ : pw_Sto) : Option (Int × pw_Sto) := pw_gd 4 x0 σ ((pw_gi 4 x0 1 σ).bind (fun v1 => ml_P_valueAt_8 1000 x0 x1 x2 (0 : Int) v1 σ))
set_option maxHeartbeats 4000000 in
set_option maxRecDepth 20000 in
theorem sl_P_valueAt_8 {X : pw_X Int} (hX : pw_Ok X prog_7_method_7_code "PadeWorkbench$Polynomial" mr_P_valueAt 5) (hR : pw_RI X prog_7_method_7_code) : ∀ (n : Nat) (x0 : Nat) (x1 : Int) (x2 : Int) (x3 : Int) (x4 : Int) (σ : pw_Sto), pw_Sp X 0 0 8 [(0, Value.ref x0), (1, Value.int (iI x1)), (2, Value.int (iI x2)), (3, Value.int (iI x3)), (4, Value.int (iI x4))] [] σ (ml_P_valueAt_8 n x0 x1 x2 x3 x4 σ) := by
  intro n
  induction n with
  | zero => intros; exact pw_none
  | succ n ih =>
    intro x0 x1 x2 x3 x4 σ
    show pw_Sp X 0 0 8 _ _ σ (mb_P_valueAt_8 (ml_P_valueAt_8 n) x0 x1 x2 x3 x4 σ)
    unfold mb_P_valueAt_8
    refine sp_iload (pc := 8) (i := 4) hX 4 rfl md_P_valueAt_8 ?_
    refine sp_if_lt (pc := 10) hX 35 (by decide) md_P_valueAt_10 (fun _ => ?_) (fun _ => ?_)
    · refine sp_iload_n (pc := 35) (k := 3) (i := 3) hX rfl 3 rfl md_P_valueAt_35 ?_
      exact sp_iret (pc := 36) hX hR rfl (Nat.le_of_ble_eq_true rfl) md_P_valueAt_36
    · refine sp_iload_n (pc := 13) (k := 3) (i := 3) hX rfl 3 rfl md_P_valueAt_13 ?_
      refine sp_iload_n (pc := 14) (k := 1) (i := 1) hX rfl 1 rfl md_P_valueAt_14 ?_
      refine sp_imul (pc := 15) hX md_P_valueAt_15 ?_
      refine sp_aload_n (pc := 16) (k := 0) (i := 0) hX rfl 0 rfl md_P_valueAt_16 ?_
      refine sp_getR (pc := 17) (ci := 4) (k := 0) (idx := 9) hX mcl_4 (by decide) mq_187 rfl md_P_valueAt_17 (fun v2 => ?_)
      refine sp_iload (pc := 20) (i := 4) hX 4 rfl md_P_valueAt_20 ?_
      refine sp_iaload (pc := 22) hX md_P_valueAt_22 (fun v3 => ?_)
      refine sp_iadd (pc := 23) hX md_P_valueAt_23 ?_
      refine sp_iload_n (pc := 24) (k := 2) (i := 2) hX rfl 2 rfl md_P_valueAt_24 ?_
      refine sp_callSI (pc := 25) (y := my_K_reduce) (ccy := prog_3_method_2_code) (nLy := 2) (ret := (some .int)) (rmy := mr_K_reduce) (n := 2) (idx := 37) (As := [.int (iI ((x3 * x1) + v3)), .int (iI x2)]) (st := []) (cells' := 0) (slots' := 0) hX (fun _ h => mc_K_reduce h) mk_K_reduce mq_373 mq_529 ⟨(Nat.le_of_ble_eq_true rfl), (Nat.le_of_ble_eq_true rfl)⟩ rfl rfl (Nat.le_of_ble_eq_true rfl) ⟨(Nat.le_of_ble_eq_true rfl), (Nat.le_of_ble_eq_true rfl)⟩ rfl rfl md_P_valueAt_25 (fun v5 s4 => ?_)
      refine sp_istore_n (pc := 28) (k := 3) (i := 3) (L' := [(3, Value.int (iI v5)), (0, Value.ref x0), (1, Value.int (iI x1)), (2, Value.int (iI x2)), (4, Value.int (iI x4))]) hX rfl (by decide) rfl md_P_valueAt_28 ?_
      refine sp_iinc (pc := 29) (i := 4) (L' := [(4, Value.int (iI (x4 + (-1)))), (3, Value.int (iI v5)), (0, Value.ref x0), (1, Value.int (iI x1)), (2, Value.int (iI x2))]) hX 4 rfl (by decide) rfl md_P_valueAt_29 ?_
      refine sp_goto (pc := 32) hX 8 (by decide) md_P_valueAt_32 ?_
      refine sp_sub [2, 3, 4, 1, 0] (L' := [(0, Value.ref x0), (1, Value.int (iI x1)), (2, Value.int (iI x2)), (3, Value.int (iI v5)), (4, Value.int (iI (x4 + (-1))))]) rfl ?_
      exact ih x0 x1 x2 v5 (x4 + (-1)) s4
set_option maxHeartbeats 4000000 in
set_option maxRecDepth 20000 in
theorem mc_P_valueAt {l : Launch} {E : pw_E} {σ : pw_Sto} {x0 : Nat} {x1 : Int} {x2 : Int} {out : Int × pw_Sto} (h : mf_P_valueAt x0 x1 x2 σ = some out) : pw_CI l E my_P_valueAt prog_7_method_7_code 5 (some .int) mr_P_valueAt [.ref x0, .int (iI x1), .int (iI x2)] σ out := by
  unfold mf_P_valueAt at h
  refine pw_entryI (by decide) (Nat.le_of_ble_eq_true rfl) (pw_gd_val h) (fun X hX hR hI => ?_)
  change pw_Ok X prog_7_method_7_code "PadeWorkbench$Polynomial" mr_P_valueAt 5 at hX
  show pw_Sp X 0 0 0 [(0, Value.ref x0), (1, Value.int (iI x1)), (2, Value.int (iI x2))] [] σ _
  refine sp_iconst (pc := 0) hX md_P_valueAt_0 ?_
  refine sp_istore_n (pc := 1) (k := 3) (i := 3) (L' := [(3, Value.int (iI (0 : Int))), (0, Value.ref x0), (1, Value.int (iI x1)), (2, Value.int (iI x2))]) hX rfl (by decide) rfl md_P_valueAt_1 ?_
  refine sp_aload_n (pc := 2) (k := 0) (i := 0) hX rfl 1 rfl md_P_valueAt_2 ?_
  refine sp_getI (pc := 3) (ci := 4) (k := 1) (idx := 15) hX mcl_4 (by decide) mq_191 rfl md_P_valueAt_3 (fun v1 => ?_)
  refine sp_istore (pc := 6) (i := 4) (L' := [(4, Value.int (iI v1)), (3, Value.int (iI (0 : Int))), (0, Value.ref x0), (1, Value.int (iI x1)), (2, Value.int (iI x2))]) hX (by decide) rfl md_P_valueAt_6 ?_
  refine sp_sub [2, 3, 4, 1, 0] (L' := [(0, Value.ref x0), (1, Value.int (iI x1)), (2, Value.int (iI x2)), (3, Value.int (iI (0 : Int))), (4, Value.int (iI v1))]) rfl ?_
  exact sl_P_valueAt_8 hX hR 1000 x0 x1 x2 (0 : Int) v1 σ
/-! PadeWorkbench$Polynomial.divideByRoot(II)V -/
theorem md_P_divideByRoot_0 : decode prog_7_method_11_code 0 = .ok (.iconst 0, 1) := by decide +kernel
theorem md_P_divideByRoot_1 : decode prog_7_method_11_code 1 = .ok (.istore_n 3, 1) := by decide +kernel
theorem md_P_divideByRoot_2 : decode prog_7_method_11_code 2 = .ok (.bipush 16, 2) := by decide +kernel
theorem md_P_divideByRoot_4 : decode prog_7_method_11_code 4 = .ok (.istore 4, 2) := by decide +kernel
theorem md_P_divideByRoot_6 : decode prog_7_method_11_code 6 = .ok (.iload 4, 2) := by decide +kernel
theorem md_P_divideByRoot_8 : decode prog_7_method_11_code 8 = .ok (.ifCond .lt 37, 3) := by decide +kernel
theorem md_P_divideByRoot_45 : decode prog_7_method_11_code 45 = .ok (.aload_n 0, 1) := by decide +kernel
theorem md_P_divideByRoot_46 : decode prog_7_method_11_code 46 = .ok (.invokevirtual 28, 3) := by decide +kernel
theorem md_P_divideByRoot_49 : decode prog_7_method_11_code 49 = .ok (.return_, 1) := by decide +kernel
theorem md_P_divideByRoot_11 : decode prog_7_method_11_code 11 = .ok (.aload_n 0, 1) := by decide +kernel
theorem md_P_divideByRoot_12 : decode prog_7_method_11_code 12 = .ok (.getfield 9, 3) := by decide +kernel
theorem md_P_divideByRoot_15 : decode prog_7_method_11_code 15 = .ok (.iload 4, 2) := by decide +kernel
theorem md_P_divideByRoot_17 : decode prog_7_method_11_code 17 = .ok (.iaload, 1) := by decide +kernel
theorem md_P_divideByRoot_18 : decode prog_7_method_11_code 18 = .ok (.istore 5, 2) := by decide +kernel
theorem md_P_divideByRoot_20 : decode prog_7_method_11_code 20 = .ok (.aload_n 0, 1) := by decide +kernel
theorem md_P_divideByRoot_21 : decode prog_7_method_11_code 21 = .ok (.getfield 9, 3) := by decide +kernel
theorem md_P_divideByRoot_24 : decode prog_7_method_11_code 24 = .ok (.iload 4, 2) := by decide +kernel
theorem md_P_divideByRoot_26 : decode prog_7_method_11_code 26 = .ok (.iload_n 3, 1) := by decide +kernel
theorem md_P_divideByRoot_27 : decode prog_7_method_11_code 27 = .ok (.iastore, 1) := by decide +kernel
theorem md_P_divideByRoot_28 : decode prog_7_method_11_code 28 = .ok (.iload 5, 2) := by decide +kernel
theorem md_P_divideByRoot_30 : decode prog_7_method_11_code 30 = .ok (.iload_n 1, 1) := by decide +kernel
theorem md_P_divideByRoot_31 : decode prog_7_method_11_code 31 = .ok (.iload_n 3, 1) := by decide +kernel
theorem md_P_divideByRoot_32 : decode prog_7_method_11_code 32 = .ok (.imul, 1) := by decide +kernel
theorem md_P_divideByRoot_33 : decode prog_7_method_11_code 33 = .ok (.iadd, 1) := by decide +kernel
theorem md_P_divideByRoot_34 : decode prog_7_method_11_code 34 = .ok (.iload_n 2, 1) := by decide +kernel
theorem md_P_divideByRoot_35 : decode prog_7_method_11_code 35 = .ok (.invokestatic 37, 3) := by decide +kernel
theorem md_P_divideByRoot_38 : decode prog_7_method_11_code 38 = .ok (.istore_n 3, 1) := by decide +kernel
theorem md_P_divideByRoot_39 : decode prog_7_method_11_code 39 = .ok (.iinc 4 (-1), 3) := by decide +kernel
theorem md_P_divideByRoot_42 : decode prog_7_method_11_code 42 = .ok (.goto (-36), 3) := by decide +kernel
def mb_P_divideByRoot_6 (rc : Nat → Int → Int → Int → Int → pw_Sto → Option (Unit × pw_Sto)) : Nat → Int → Int → Int → Int → pw_Sto → Option (Unit × pw_Sto) := fun x0 x1 x2 x3 x4 σ => pw_ck x4 0 (if x4 < 0 then pw_bd (mf_P_measure x0 σ) (fun _ s1 => some ((), s1)) else (pw_gr 4 x0 0 σ).bind (fun v2 => (pw_ai v2 x4 σ).bind (fun v3 => (pw_gr 4 x0 0 σ).bind (fun v4 => (pw_si v4 x4 x3 σ).bind (fun s5 => pw_bd (mf_K_reduce (v3 + (x1 * x3)) x2 s5) (fun v7 s6 => rc x0 x1 x2 v7 (x4 + (-1)) s6))))))
def ml_P_divideByRoot_6 : Nat → Nat → Int → Int → Int → Int → pw_Sto → Option (Unit × pw_Sto) := pw_lp (fun _ _ _ _ _ _ => none) (mb_P_divideByRoot_6)
def mf_P_divideByRoot (x0 : Nat) (x1 : Int) (x2 : Int) (σ : pw_Sto) : Option (Unit × pw_Sto) := pw_gd 4 x0 σ (ml_P_divideByRoot_6 1000 x0 x1 x2 (0 : Int) (16 : Int) σ)
set_option maxHeartbeats 4000000 in
set_option maxRecDepth 20000 in
theorem sl_P_divideByRoot_6 {X : pw_X Unit} (hX : pw_Ok X prog_7_method_11_code "PadeWorkbench$Polynomial" mr_P_divideByRoot 6) (hR : pw_RV X prog_7_method_11_code) : ∀ (n : Nat) (x0 : Nat) (x1 : Int) (x2 : Int) (x3 : Int) (x4 : Int) (σ : pw_Sto), pw_Sp X 0 0 6 [(0, Value.ref x0), (1, Value.int (iI x1)), (2, Value.int (iI x2)), (3, Value.int (iI x3)), (4, Value.int (iI x4))] [] σ (ml_P_divideByRoot_6 n x0 x1 x2 x3 x4 σ) := by
  intro n
  induction n with
  | zero => intros; exact pw_none
  | succ n ih =>
    intro x0 x1 x2 x3 x4 σ
    show pw_Sp X 0 0 6 _ _ σ (mb_P_divideByRoot_6 (ml_P_divideByRoot_6 n) x0 x1 x2 x3 x4 σ)
    unfold mb_P_divideByRoot_6
    refine sp_iload (pc := 6) (i := 4) hX 4 rfl md_P_divideByRoot_6 ?_
    refine sp_if_lt (pc := 8) hX 45 (by decide) md_P_divideByRoot_8 (fun _ => ?_) (fun _ => ?_)
    · refine sp_aload_n (pc := 45) (k := 0) (i := 0) hX rfl 0 rfl md_P_divideByRoot_45 ?_
      refine sp_callVV (pc := 46) (y := my_P_measure) (ccy := prog_7_method_6_code) (nLy := 1) (ret := none) (rmy := mr_P_measure) (n := 0) (idx := 28) (As := []) (st := []) (o := x0) (cells' := 0) (slots' := 0) hX (fun _ h => mc_P_measure h) mk_P_measure mv_P_measure mcl_4 (fun _ h => pw_gd_of h) mq_505 ⟨(Nat.le_of_ble_eq_true rfl), (Nat.le_of_ble_eq_true rfl)⟩ rfl rfl (Nat.le_of_ble_eq_true rfl) ⟨(Nat.le_of_ble_eq_true rfl), (Nat.le_of_ble_eq_true rfl)⟩ rfl rfl md_P_divideByRoot_46 (fun s1 => ?_)
      exact sp_vret (pc := 49) hX hR rfl (Nat.le_of_ble_eq_true rfl) md_P_divideByRoot_49
    · refine sp_aload_n (pc := 11) (k := 0) (i := 0) hX rfl 0 rfl md_P_divideByRoot_11 ?_
      refine sp_getR (pc := 12) (ci := 4) (k := 0) (idx := 9) hX mcl_4 (by decide) mq_187 rfl md_P_divideByRoot_12 (fun v2 => ?_)
      refine sp_iload (pc := 15) (i := 4) hX 4 rfl md_P_divideByRoot_15 ?_
      refine sp_iaload (pc := 17) hX md_P_divideByRoot_17 (fun v3 => ?_)
      refine sp_istore (pc := 18) (i := 5) (L' := [(5, Value.int (iI v3)), (0, Value.ref x0), (1, Value.int (iI x1)), (2, Value.int (iI x2)), (3, Value.int (iI x3)), (4, Value.int (iI x4))]) hX (by decide) rfl md_P_divideByRoot_18 ?_
      refine sp_aload_n (pc := 20) (k := 0) (i := 0) hX rfl 1 rfl md_P_divideByRoot_20 ?_
      refine sp_getR (pc := 21) (ci := 4) (k := 0) (idx := 9) hX mcl_4 (by decide) mq_187 rfl md_P_divideByRoot_21 (fun v4 => ?_)
      refine sp_iload (pc := 24) (i := 4) hX 5 rfl md_P_divideByRoot_24 ?_
      refine sp_iload_n (pc := 26) (k := 3) (i := 3) hX rfl 4 rfl md_P_divideByRoot_26 ?_
      refine sp_iastore (pc := 27) hX md_P_divideByRoot_27 (fun s5 => ?_)
      refine sp_iload (pc := 28) (i := 5) hX 0 rfl md_P_divideByRoot_28 ?_
      refine sp_iload_n (pc := 30) (k := 1) (i := 1) hX rfl 2 rfl md_P_divideByRoot_30 ?_
      refine sp_iload_n (pc := 31) (k := 3) (i := 3) hX rfl 4 rfl md_P_divideByRoot_31 ?_
      refine sp_imul (pc := 32) hX md_P_divideByRoot_32 ?_
      refine sp_iadd (pc := 33) hX md_P_divideByRoot_33 ?_
      refine sp_iload_n (pc := 34) (k := 2) (i := 2) hX rfl 3 rfl md_P_divideByRoot_34 ?_
      refine sp_callSI (pc := 35) (y := my_K_reduce) (ccy := prog_3_method_2_code) (nLy := 2) (ret := (some .int)) (rmy := mr_K_reduce) (n := 2) (idx := 37) (As := [.int (iI (v3 + (x1 * x3))), .int (iI x2)]) (st := []) (cells' := 0) (slots' := 0) hX (fun _ h => mc_K_reduce h) mk_K_reduce mq_373 mq_529 ⟨(Nat.le_of_ble_eq_true rfl), (Nat.le_of_ble_eq_true rfl)⟩ rfl rfl (Nat.le_of_ble_eq_true rfl) ⟨(Nat.le_of_ble_eq_true rfl), (Nat.le_of_ble_eq_true rfl)⟩ rfl rfl md_P_divideByRoot_35 (fun v7 s6 => ?_)
      refine sp_istore_n (pc := 38) (k := 3) (i := 3) (L' := [(3, Value.int (iI v7)), (5, Value.int (iI v3)), (0, Value.ref x0), (1, Value.int (iI x1)), (2, Value.int (iI x2)), (4, Value.int (iI x4))]) hX rfl (by decide) rfl md_P_divideByRoot_38 ?_
      refine sp_iinc (pc := 39) (i := 4) (L' := [(4, Value.int (iI (x4 + (-1)))), (3, Value.int (iI v7)), (5, Value.int (iI v3)), (0, Value.ref x0), (1, Value.int (iI x1)), (2, Value.int (iI x2))]) hX 5 rfl (by decide) rfl md_P_divideByRoot_39 ?_
      refine sp_goto (pc := 42) hX 6 (by decide) md_P_divideByRoot_42 ?_
      refine sp_sub [3, 4, 5, 1, 0] (L' := [(0, Value.ref x0), (1, Value.int (iI x1)), (2, Value.int (iI x2)), (3, Value.int (iI v7)), (4, Value.int (iI (x4 + (-1))))]) rfl ?_
      exact ih x0 x1 x2 v7 (x4 + (-1)) s6
set_option maxHeartbeats 4000000 in
set_option maxRecDepth 20000 in
theorem mc_P_divideByRoot {l : Launch} {E : pw_E} {σ : pw_Sto} {x0 : Nat} {x1 : Int} {x2 : Int} {out : Unit × pw_Sto} (h : mf_P_divideByRoot x0 x1 x2 σ = some out) : pw_CV l E my_P_divideByRoot prog_7_method_11_code 6 none mr_P_divideByRoot [.ref x0, .int (iI x1), .int (iI x2)] σ out := by
  unfold mf_P_divideByRoot at h
  refine pw_entryV (by decide) (Nat.le_of_ble_eq_true rfl) (pw_gd_val h) (fun X hX hR hI => ?_)
  change pw_Ok X prog_7_method_11_code "PadeWorkbench$Polynomial" mr_P_divideByRoot 6 at hX
  show pw_Sp X 0 0 0 [(0, Value.ref x0), (1, Value.int (iI x1)), (2, Value.int (iI x2))] [] σ _
  refine sp_iconst (pc := 0) hX md_P_divideByRoot_0 ?_
  refine sp_istore_n (pc := 1) (k := 3) (i := 3) (L' := [(3, Value.int (iI (0 : Int))), (0, Value.ref x0), (1, Value.int (iI x1)), (2, Value.int (iI x2))]) hX rfl (by decide) rfl md_P_divideByRoot_1 ?_
  refine sp_bipush (pc := 2) hX (by decide) md_P_divideByRoot_2 ?_
  refine sp_istore (pc := 4) (i := 4) (L' := [(4, Value.int (iI (16 : Int))), (3, Value.int (iI (0 : Int))), (0, Value.ref x0), (1, Value.int (iI x1)), (2, Value.int (iI x2))]) hX (by decide) rfl md_P_divideByRoot_4 ?_
  refine sp_sub [2, 3, 4, 1, 0] (L' := [(0, Value.ref x0), (1, Value.int (iI x1)), (2, Value.int (iI x2)), (3, Value.int (iI (0 : Int))), (4, Value.int (iI (16 : Int)))]) rfl ?_
  exact sl_P_divideByRoot_6 hX hR 1000 x0 x1 x2 (0 : Int) (16 : Int) σ
/-! PadeWorkbench$Polynomial.lowest()I -/
theorem md_P_lowest_0 : decode prog_7_method_12_code 0 = .ok (.iconst 0, 1) := by decide +kernel
theorem md_P_lowest_1 : decode prog_7_method_12_code 1 = .ok (.istore_n 1, 1) := by decide +kernel
theorem md_P_lowest_2 : decode prog_7_method_12_code 2 = .ok (.iload_n 1, 1) := by decide +kernel
theorem md_P_lowest_3 : decode prog_7_method_12_code 3 = .ok (.bipush 17, 2) := by decide +kernel
theorem md_P_lowest_5 : decode prog_7_method_12_code 5 = .ok (.if_icmp .ge 25, 3) := by decide +kernel
theorem md_P_lowest_30 : decode prog_7_method_12_code 30 = .ok (.iconst 0, 1) := by decide +kernel
theorem md_P_lowest_31 : decode prog_7_method_12_code 31 = .ok (.ireturn, 1) := by decide +kernel
theorem md_P_lowest_8 : decode prog_7_method_12_code 8 = .ok (.aload_n 0, 1) := by decide +kernel
theorem md_P_lowest_9 : decode prog_7_method_12_code 9 = .ok (.getfield 9, 3) := by decide +kernel
theorem md_P_lowest_12 : decode prog_7_method_12_code 12 = .ok (.iload_n 1, 1) := by decide +kernel
theorem md_P_lowest_13 : decode prog_7_method_12_code 13 = .ok (.iaload, 1) := by decide +kernel
theorem md_P_lowest_14 : decode prog_7_method_12_code 14 = .ok (.ifCond .eq 10, 3) := by decide +kernel
theorem md_P_lowest_24 : decode prog_7_method_12_code 24 = .ok (.iinc 1 1, 3) := by decide +kernel
theorem md_P_lowest_27 : decode prog_7_method_12_code 27 = .ok (.goto (-25), 3) := by decide +kernel
theorem md_P_lowest_17 : decode prog_7_method_12_code 17 = .ok (.aload_n 0, 1) := by decide +kernel
theorem md_P_lowest_18 : decode prog_7_method_12_code 18 = .ok (.getfield 9, 3) := by decide +kernel
theorem md_P_lowest_21 : decode prog_7_method_12_code 21 = .ok (.iload_n 1, 1) := by decide +kernel
theorem md_P_lowest_22 : decode prog_7_method_12_code 22 = .ok (.iaload, 1) := by decide +kernel
theorem md_P_lowest_23 : decode prog_7_method_12_code 23 = .ok (.ireturn, 1) := by decide +kernel
def mb_P_lowest_2 (rc : Nat → Int → pw_Sto → Option (Int × pw_Sto)) : Nat → Int → pw_Sto → Option (Int × pw_Sto) := fun x0 x1 σ => pw_ck x1 (17 : Int) (if (17 : Int) ≤ x1 then some ((0 : Int), σ) else (pw_gr 4 x0 0 σ).bind (fun v1 => (pw_ai v1 x1 σ).bind (fun v2 => pw_ck v2 0 (if v2 = 0 then rc x0 (x1 + 1) σ else (pw_gr 4 x0 0 σ).bind (fun v3 => (pw_ai v3 x1 σ).bind (fun v4 => some (v4, σ)))))))
def ml_P_lowest_2 : Nat → Nat → Int → pw_Sto → Option (Int × pw_Sto) := pw_lp (fun _ _ _ => none) (mb_P_lowest_2)
def mf_P_lowest (x0 : Nat) (σ : pw_Sto) : Option (Int × pw_Sto) := pw_gd 4 x0 σ (ml_P_lowest_2 1000 x0 (0 : Int) σ)
set_option maxHeartbeats 4000000 in
set_option maxRecDepth 20000 in
theorem sl_P_lowest_2 {X : pw_X Int} (hX : pw_Ok X prog_7_method_12_code "PadeWorkbench$Polynomial" mr_P_lowest 2) (hR : pw_RI X prog_7_method_12_code) : ∀ (n : Nat) (x0 : Nat) (x1 : Int) (σ : pw_Sto), pw_Sp X 0 0 2 [(0, Value.ref x0), (1, Value.int (iI x1))] [] σ (ml_P_lowest_2 n x0 x1 σ) := by
  intro n
  induction n with
  | zero => intros; exact pw_none
  | succ n ih =>
    intro x0 x1 σ
    show pw_Sp X 0 0 2 _ _ σ (mb_P_lowest_2 (ml_P_lowest_2 n) x0 x1 σ)
    unfold mb_P_lowest_2
    refine sp_iload_n (pc := 2) (k := 1) (i := 1) hX rfl 1 rfl md_P_lowest_2 ?_
    refine sp_bipush (pc := 3) hX (by decide) md_P_lowest_3 ?_
    refine sp_icmp_ge (pc := 5) hX 30 (by decide) md_P_lowest_5 (fun _ => ?_) (fun _ => ?_)
    · refine sp_iconst (pc := 30) hX md_P_lowest_30 ?_
      exact sp_iret (pc := 31) hX hR rfl (Nat.le_of_ble_eq_true rfl) md_P_lowest_31
    · refine sp_aload_n (pc := 8) (k := 0) (i := 0) hX rfl 0 rfl md_P_lowest_8 ?_
      refine sp_getR (pc := 9) (ci := 4) (k := 0) (idx := 9) hX mcl_4 (by decide) mq_187 rfl md_P_lowest_9 (fun v1 => ?_)
      refine sp_iload_n (pc := 12) (k := 1) (i := 1) hX rfl 1 rfl md_P_lowest_12 ?_
      refine sp_iaload (pc := 13) hX md_P_lowest_13 (fun v2 => ?_)
      refine sp_if_eq (pc := 14) hX 24 (by decide) md_P_lowest_14 (fun _ => ?_) (fun _ => ?_)
      · refine sp_iinc (pc := 24) (i := 1) (L' := [(1, Value.int (iI (x1 + 1))), (0, Value.ref x0)]) hX 1 rfl (by decide) rfl md_P_lowest_24 ?_
        refine sp_goto (pc := 27) hX 2 (by decide) md_P_lowest_27 ?_
        refine sp_sub [1, 0] (L' := [(0, Value.ref x0), (1, Value.int (iI (x1 + 1)))]) rfl ?_
        exact ih x0 (x1 + 1) σ
      · refine sp_aload_n (pc := 17) (k := 0) (i := 0) hX rfl 0 rfl md_P_lowest_17 ?_
        refine sp_getR (pc := 18) (ci := 4) (k := 0) (idx := 9) hX mcl_4 (by decide) mq_187 rfl md_P_lowest_18 (fun v3 => ?_)
        refine sp_iload_n (pc := 21) (k := 1) (i := 1) hX rfl 1 rfl md_P_lowest_21 ?_
        refine sp_iaload (pc := 22) hX md_P_lowest_22 (fun v4 => ?_)
        exact sp_iret (pc := 23) hX hR rfl (Nat.le_of_ble_eq_true rfl) md_P_lowest_23
set_option maxHeartbeats 4000000 in
set_option maxRecDepth 20000 in
theorem mc_P_lowest {l : Launch} {E : pw_E} {σ : pw_Sto} {x0 : Nat} {out : Int × pw_Sto} (h : mf_P_lowest x0 σ = some out) : pw_CI l E my_P_lowest prog_7_method_12_code 2 (some .int) mr_P_lowest [.ref x0] σ out := by
  unfold mf_P_lowest at h
  refine pw_entryI (by decide) (Nat.le_of_ble_eq_true rfl) (pw_gd_val h) (fun X hX hR hI => ?_)
  change pw_Ok X prog_7_method_12_code "PadeWorkbench$Polynomial" mr_P_lowest 2 at hX
  show pw_Sp X 0 0 0 [(0, Value.ref x0)] [] σ _
  refine sp_iconst (pc := 0) hX md_P_lowest_0 ?_
  refine sp_istore_n (pc := 1) (k := 1) (i := 1) (L' := [(1, Value.int (iI (0 : Int))), (0, Value.ref x0)]) hX rfl (by decide) rfl md_P_lowest_1 ?_
  refine sp_sub [1, 0] (L' := [(0, Value.ref x0), (1, Value.int (iI (0 : Int)))]) rfl ?_
  exact sl_P_lowest_2 hX hR 1000 x0 (0 : Int) σ
/-! PadeWorkbench$Polynomial.scaleBy(II)V -/
theorem md_P_scaleBy_0 : decode prog_7_method_9_code 0 = .ok (.iconst 0, 1) := by decide +kernel
theorem md_P_scaleBy_1 : decode prog_7_method_9_code 1 = .ok (.istore_n 3, 1) := by decide +kernel
theorem md_P_scaleBy_2 : decode prog_7_method_9_code 2 = .ok (.iload_n 3, 1) := by decide +kernel
theorem md_P_scaleBy_3 : decode prog_7_method_9_code 3 = .ok (.bipush 17, 2) := by decide +kernel
theorem md_P_scaleBy_5 : decode prog_7_method_9_code 5 = .ok (.if_icmp .ge 26, 3) := by decide +kernel
theorem md_P_scaleBy_31 : decode prog_7_method_9_code 31 = .ok (.return_, 1) := by decide +kernel
theorem md_P_scaleBy_8 : decode prog_7_method_9_code 8 = .ok (.aload_n 0, 1) := by decide +kernel
theorem md_P_scaleBy_9 : decode prog_7_method_9_code 9 = .ok (.getfield 9, 3) := by decide +kernel
theorem md_P_scaleBy_12 : decode prog_7_method_9_code 12 = .ok (.iload_n 3, 1) := by decide +kernel
theorem md_P_scaleBy_13 : decode prog_7_method_9_code 13 = .ok (.aload_n 0, 1) := by decide +kernel
theorem md_P_scaleBy_14 : decode prog_7_method_9_code 14 = .ok (.getfield 9, 3) := by decide +kernel
theorem md_P_scaleBy_17 : decode prog_7_method_9_code 17 = .ok (.iload_n 3, 1) := by decide +kernel
theorem md_P_scaleBy_18 : decode prog_7_method_9_code 18 = .ok (.iaload, 1) := by decide +kernel
theorem md_P_scaleBy_19 : decode prog_7_method_9_code 19 = .ok (.iload_n 1, 1) := by decide +kernel
theorem md_P_scaleBy_20 : decode prog_7_method_9_code 20 = .ok (.iload_n 2, 1) := by decide +kernel
theorem md_P_scaleBy_21 : decode prog_7_method_9_code 21 = .ok (.invokestatic 43, 3) := by decide +kernel
theorem md_P_scaleBy_24 : decode prog_7_method_9_code 24 = .ok (.iastore, 1) := by decide +kernel
theorem md_P_scaleBy_25 : decode prog_7_method_9_code 25 = .ok (.iinc 3 1, 3) := by decide +kernel
theorem md_P_scaleBy_28 : decode prog_7_method_9_code 28 = .ok (.goto (-26), 3) := by decide +kernel
def mb_P_scaleBy_2 (rc : Nat → Int → Int → Int → pw_Sto → Option (Unit × pw_Sto)) : Nat → Int → Int → Int → pw_Sto → Option (Unit × pw_Sto) := fun x0 x1 x2 x3 σ => pw_ck x3 (17 : Int) (if (17 : Int) ≤ x3 then some ((), σ) else (pw_gr 4 x0 0 σ).bind (fun v1 => (pw_gr 4 x0 0 σ).bind (fun v2 => (pw_ai v2 x3 σ).bind (fun v3 => pw_bd (mf_K_times v3 x1 x2 σ) (fun v5 s4 => (pw_si v1 x3 v5 s4).bind (fun s6 => rc x0 x1 x2 (x3 + 1) s6))))))
def ml_P_scaleBy_2 : Nat → Nat → Int → Int → Int → pw_Sto → Option (Unit × pw_Sto) := pw_lp (fun _ _ _ _ _ => none) (mb_P_scaleBy_2)
def mf_P_scaleBy (x0 : Nat) (x1 : Int) (x2 : Int) (σ : pw_Sto) : Option (Unit × pw_Sto) := pw_gd 4 x0 σ (ml_P_scaleBy_2 1000 x0 x1 x2 (0 : Int) σ)
set_option maxHeartbeats 4000000 in
set_option maxRecDepth 20000 in
theorem sl_P_scaleBy_2 {X : pw_X Unit} (hX : pw_Ok X prog_7_method_9_code "PadeWorkbench$Polynomial" mr_P_scaleBy 4) (hR : pw_RV X prog_7_method_9_code) : ∀ (n : Nat) (x0 : Nat) (x1 : Int) (x2 : Int) (x3 : Int) (σ : pw_Sto), pw_Sp X 0 0 2 [(0, Value.ref x0), (1, Value.int (iI x1)), (2, Value.int (iI x2)), (3, Value.int (iI x3))] [] σ (ml_P_scaleBy_2 n x0 x1 x2 x3 σ) := by
  intro n
  induction n with
  | zero => intros; exact pw_none
  | succ n ih =>
    intro x0 x1 x2 x3 σ
    show pw_Sp X 0 0 2 _ _ σ (mb_P_scaleBy_2 (ml_P_scaleBy_2 n) x0 x1 x2 x3 σ)
    unfold mb_P_scaleBy_2
    refine sp_iload_n (pc := 2) (k := 3) (i := 3) hX rfl 3 rfl md_P_scaleBy_2 ?_
    refine sp_bipush (pc := 3) hX (by decide) md_P_scaleBy_3 ?_
    refine sp_icmp_ge (pc := 5) hX 31 (by decide) md_P_scaleBy_5 (fun _ => ?_) (fun _ => ?_)
    · exact sp_vret (pc := 31) hX hR rfl (Nat.le_of_ble_eq_true rfl) md_P_scaleBy_31
    · refine sp_aload_n (pc := 8) (k := 0) (i := 0) hX rfl 0 rfl md_P_scaleBy_8 ?_
      refine sp_getR (pc := 9) (ci := 4) (k := 0) (idx := 9) hX mcl_4 (by decide) mq_187 rfl md_P_scaleBy_9 (fun v1 => ?_)
      refine sp_iload_n (pc := 12) (k := 3) (i := 3) hX rfl 3 rfl md_P_scaleBy_12 ?_
      refine sp_aload_n (pc := 13) (k := 0) (i := 0) hX rfl 0 rfl md_P_scaleBy_13 ?_
      refine sp_getR (pc := 14) (ci := 4) (k := 0) (idx := 9) hX mcl_4 (by decide) mq_187 rfl md_P_scaleBy_14 (fun v2 => ?_)
      refine sp_iload_n (pc := 17) (k := 3) (i := 3) hX rfl 3 rfl md_P_scaleBy_17 ?_
      refine sp_iaload (pc := 18) hX md_P_scaleBy_18 (fun v3 => ?_)
      refine sp_iload_n (pc := 19) (k := 1) (i := 1) hX rfl 1 rfl md_P_scaleBy_19 ?_
      refine sp_iload_n (pc := 20) (k := 2) (i := 2) hX rfl 2 rfl md_P_scaleBy_20 ?_
      refine sp_callSI (pc := 21) (y := my_K_times) (ccy := prog_3_method_4_code) (nLy := 3) (ret := (some .int)) (rmy := mr_K_times) (n := 3) (idx := 43) (As := [.int (iI v3), .int (iI x1), .int (iI x2)]) (st := [.int (iI x3), .ref v1]) (cells' := 0) (slots' := 0) hX (fun _ h => mc_K_times h) mk_K_times mq_402 mq_570 ⟨(Nat.le_of_ble_eq_true rfl), (Nat.le_of_ble_eq_true rfl)⟩ rfl rfl (Nat.le_of_ble_eq_true rfl) ⟨(Nat.le_of_ble_eq_true rfl), (Nat.le_of_ble_eq_true rfl)⟩ rfl rfl md_P_scaleBy_21 (fun v5 s4 => ?_)
      refine sp_iastore (pc := 24) hX md_P_scaleBy_24 (fun s6 => ?_)
      refine sp_iinc (pc := 25) (i := 3) (L' := [(3, Value.int (iI (x3 + 1))), (0, Value.ref x0), (1, Value.int (iI x1)), (2, Value.int (iI x2))]) hX 3 rfl (by decide) rfl md_P_scaleBy_25 ?_
      refine sp_goto (pc := 28) hX 2 (by decide) md_P_scaleBy_28 ?_
      refine sp_sub [1, 2, 3, 0] (L' := [(0, Value.ref x0), (1, Value.int (iI x1)), (2, Value.int (iI x2)), (3, Value.int (iI (x3 + 1)))]) rfl ?_
      exact ih x0 x1 x2 (x3 + 1) s6
set_option maxHeartbeats 4000000 in
set_option maxRecDepth 20000 in
theorem mc_P_scaleBy {l : Launch} {E : pw_E} {σ : pw_Sto} {x0 : Nat} {x1 : Int} {x2 : Int} {out : Unit × pw_Sto} (h : mf_P_scaleBy x0 x1 x2 σ = some out) : pw_CV l E my_P_scaleBy prog_7_method_9_code 4 none mr_P_scaleBy [.ref x0, .int (iI x1), .int (iI x2)] σ out := by
  unfold mf_P_scaleBy at h
  refine pw_entryV (by decide) (Nat.le_of_ble_eq_true rfl) (pw_gd_val h) (fun X hX hR hI => ?_)
  change pw_Ok X prog_7_method_9_code "PadeWorkbench$Polynomial" mr_P_scaleBy 4 at hX
  show pw_Sp X 0 0 0 [(0, Value.ref x0), (1, Value.int (iI x1)), (2, Value.int (iI x2))] [] σ _
  refine sp_iconst (pc := 0) hX md_P_scaleBy_0 ?_
  refine sp_istore_n (pc := 1) (k := 3) (i := 3) (L' := [(3, Value.int (iI (0 : Int))), (0, Value.ref x0), (1, Value.int (iI x1)), (2, Value.int (iI x2))]) hX rfl (by decide) rfl md_P_scaleBy_1 ?_
  refine sp_sub [1, 2, 3, 0] (L' := [(0, Value.ref x0), (1, Value.int (iI x1)), (2, Value.int (iI x2)), (3, Value.int (iI (0 : Int)))]) rfl ?_
  exact sl_P_scaleBy_2 hX hR 1000 x0 x1 x2 (0 : Int) σ
/-! PadeWorkbench$Polynomial.multiplyByRoot(II)V -/
theorem md_P_multiplyByRoot_0 : decode prog_7_method_10_code 0 = .ok (.iload_n 1, 1) := by decide +kernel
theorem md_P_multiplyByRoot_1 : decode prog_7_method_10_code 1 = .ok (.iload_n 2, 1) := by decide +kernel
theorem md_P_multiplyByRoot_2 : decode prog_7_method_10_code 2 = .ok (.invokestatic 47, 3) := by decide +kernel
theorem md_P_multiplyByRoot_5 : decode prog_7_method_10_code 5 = .ok (.istore_n 3, 1) := by decide +kernel
theorem md_P_multiplyByRoot_6 : decode prog_7_method_10_code 6 = .ok (.bipush 16, 2) := by decide +kernel
theorem md_P_multiplyByRoot_8 : decode prog_7_method_10_code 8 = .ok (.istore 4, 2) := by decide +kernel
theorem md_P_multiplyByRoot_10 : decode prog_7_method_10_code 10 = .ok (.iload 4, 2) := by decide +kernel
theorem md_P_multiplyByRoot_12 : decode prog_7_method_10_code 12 = .ok (.ifCond .lt 52, 3) := by decide +kernel
theorem md_P_multiplyByRoot_64 : decode prog_7_method_10_code 64 = .ok (.aload_n 0, 1) := by decide +kernel
theorem md_P_multiplyByRoot_65 : decode prog_7_method_10_code 65 = .ok (.invokevirtual 28, 3) := by decide +kernel
theorem md_P_multiplyByRoot_68 : decode prog_7_method_10_code 68 = .ok (.return_, 1) := by decide +kernel
theorem md_P_multiplyByRoot_15 : decode prog_7_method_10_code 15 = .ok (.iload 4, 2) := by decide +kernel
theorem md_P_multiplyByRoot_17 : decode prog_7_method_10_code 17 = .ok (.ifCond .le 15, 3) := by decide +kernel
theorem md_P_multiplyByRoot_32 : decode prog_7_method_10_code 32 = .ok (.iconst 0, 1) := by decide +kernel
theorem md_P_multiplyByRoot_33 : decode prog_7_method_10_code 33 = .ok (.istore 5, 2) := by decide +kernel
theorem md_P_multiplyByRoot_35 : decode prog_7_method_10_code 35 = .ok (.aload_n 0, 1) := by decide +kernel
theorem md_P_multiplyByRoot_36 : decode prog_7_method_10_code 36 = .ok (.getfield 9, 3) := by decide +kernel
theorem md_P_multiplyByRoot_39 : decode prog_7_method_10_code 39 = .ok (.iload 4, 2) := by decide +kernel
theorem md_P_multiplyByRoot_41 : decode prog_7_method_10_code 41 = .ok (.iload 5, 2) := by decide +kernel
theorem md_P_multiplyByRoot_43 : decode prog_7_method_10_code 43 = .ok (.iload_n 3, 1) := by decide +kernel
theorem md_P_multiplyByRoot_44 : decode prog_7_method_10_code 44 = .ok (.aload_n 0, 1) := by decide +kernel
theorem md_P_multiplyByRoot_45 : decode prog_7_method_10_code 45 = .ok (.getfield 9, 3) := by decide +kernel
theorem md_P_multiplyByRoot_48 : decode prog_7_method_10_code 48 = .ok (.iload 4, 2) := by decide +kernel
theorem md_P_multiplyByRoot_50 : decode prog_7_method_10_code 50 = .ok (.iaload, 1) := by decide +kernel
theorem md_P_multiplyByRoot_51 : decode prog_7_method_10_code 51 = .ok (.imul, 1) := by decide +kernel
theorem md_P_multiplyByRoot_52 : decode prog_7_method_10_code 52 = .ok (.iadd, 1) := by decide +kernel
theorem md_P_multiplyByRoot_53 : decode prog_7_method_10_code 53 = .ok (.iload_n 2, 1) := by decide +kernel
theorem md_P_multiplyByRoot_54 : decode prog_7_method_10_code 54 = .ok (.invokestatic 37, 3) := by decide +kernel
theorem md_P_multiplyByRoot_57 : decode prog_7_method_10_code 57 = .ok (.iastore, 1) := by decide +kernel
theorem md_P_multiplyByRoot_58 : decode prog_7_method_10_code 58 = .ok (.iinc 4 (-1), 3) := by decide +kernel
theorem md_P_multiplyByRoot_61 : decode prog_7_method_10_code 61 = .ok (.goto (-51), 3) := by decide +kernel
theorem md_P_multiplyByRoot_20 : decode prog_7_method_10_code 20 = .ok (.aload_n 0, 1) := by decide +kernel
theorem md_P_multiplyByRoot_21 : decode prog_7_method_10_code 21 = .ok (.getfield 9, 3) := by decide +kernel
theorem md_P_multiplyByRoot_24 : decode prog_7_method_10_code 24 = .ok (.iload 4, 2) := by decide +kernel
theorem md_P_multiplyByRoot_26 : decode prog_7_method_10_code 26 = .ok (.iconst 1, 1) := by decide +kernel
theorem md_P_multiplyByRoot_27 : decode prog_7_method_10_code 27 = .ok (.isub, 1) := by decide +kernel
theorem md_P_multiplyByRoot_28 : decode prog_7_method_10_code 28 = .ok (.iaload, 1) := by decide +kernel
theorem md_P_multiplyByRoot_29 : decode prog_7_method_10_code 29 = .ok (.goto 4, 3) := by decide +kernel
def mj_P_multiplyByRoot_33 (r10 : Nat → Int → Int → Int → pw_Sto → Option (Unit × pw_Sto)) (x0 : Nat) (x2 : Int) (x3 : Int) (x4 : Int) (y0 : Int) (σ : pw_Sto) : Option (Unit × pw_Sto) := (pw_gr 4 x0 0 σ).bind (fun v4 => (pw_gr 4 x0 0 σ).bind (fun v5 => (pw_ai v5 x4 σ).bind (fun v6 => pw_bd (mf_K_reduce (y0 + (x3 * v6)) x2 σ) (fun v8 s7 => (pw_si v4 x4 v8 s7).bind (fun s9 => r10 x0 x2 x3 (x4 + (-1)) s9)))))
def mb_P_multiplyByRoot_10 (rc : Nat → Int → Int → Int → pw_Sto → Option (Unit × pw_Sto)) : Nat → Int → Int → Int → pw_Sto → Option (Unit × pw_Sto) := fun x0 x2 x3 x4 σ => pw_ck x4 0 (if x4 < 0 then pw_bd (mf_P_measure x0 σ) (fun _ s3 => some ((), s3)) else pw_ck x4 0 (if x4 ≤ 0 then mj_P_multiplyByRoot_33 rc x0 x2 x3 x4 (0 : Int) σ else (pw_gr 4 x0 0 σ).bind (fun v10 => (pw_ai v10 (x4 - (1 : Int)) σ).bind (fun v11 => mj_P_multiplyByRoot_33 rc x0 x2 x3 x4 v11 σ))))
def ml_P_multiplyByRoot_10 : Nat → Nat → Int → Int → Int → pw_Sto → Option (Unit × pw_Sto) := pw_lp (fun _ _ _ _ _ => none) (mb_P_multiplyByRoot_10)
def mf_P_multiplyByRoot (x0 : Nat) (x1 : Int) (x2 : Int) (σ : pw_Sto) : Option (Unit × pw_Sto) := pw_gd 4 x0 σ (pw_bd (mf_K_negative x1 x2 σ) (fun v2 s1 => ml_P_multiplyByRoot_10 1000 x0 x2 v2 (16 : Int) s1))
set_option maxHeartbeats 4000000 in
set_option maxRecDepth 20000 in
theorem sj_P_multiplyByRoot_33 {X : pw_X Unit} (hX : pw_Ok X prog_7_method_10_code "PadeWorkbench$Polynomial" mr_P_multiplyByRoot 6) (hR : pw_RV X prog_7_method_10_code) {r10 : Nat → Int → Int → Int → pw_Sto → Option (Unit × pw_Sto)} (h10 : ∀ (z0 : Nat) (z1 : Int) (z2 : Int) (z3 : Int) (σ : pw_Sto), pw_Sp X 0 0 10 [(0, Value.ref z0), (2, Value.int (iI z1)), (3, Value.int (iI z2)), (4, Value.int (iI z3))] [] σ (r10 z0 z1 z2 z3 σ)) (x0 : Nat) (x2 : Int) (x3 : Int) (x4 : Int) (y0 : Int) (σ : pw_Sto) : pw_Sp X 0 0 33 [(0, Value.ref x0), (2, Value.int (iI x2)), (3, Value.int (iI x3)), (4, Value.int (iI x4))] [Value.int (iI y0)] σ (mj_P_multiplyByRoot_33 r10 x0 x2 x3 x4 y0 σ) := by
  unfold mj_P_multiplyByRoot_33
  refine sp_istore (pc := 33) (i := 5) (L' := [(5, Value.int (iI y0)), (0, Value.ref x0), (2, Value.int (iI x2)), (3, Value.int (iI x3)), (4, Value.int (iI x4))]) hX (by decide) rfl md_P_multiplyByRoot_33 ?_
  refine sp_aload_n (pc := 35) (k := 0) (i := 0) hX rfl 1 rfl md_P_multiplyByRoot_35 ?_
  refine sp_getR (pc := 36) (ci := 4) (k := 0) (idx := 9) hX mcl_4 (by decide) mq_187 rfl md_P_multiplyByRoot_36 (fun v4 => ?_)
  refine sp_iload (pc := 39) (i := 4) hX 4 rfl md_P_multiplyByRoot_39 ?_
  refine sp_iload (pc := 41) (i := 5) hX 0 rfl md_P_multiplyByRoot_41 ?_
  refine sp_iload_n (pc := 43) (k := 3) (i := 3) hX rfl 3 rfl md_P_multiplyByRoot_43 ?_
  refine sp_aload_n (pc := 44) (k := 0) (i := 0) hX rfl 1 rfl md_P_multiplyByRoot_44 ?_
  refine sp_getR (pc := 45) (ci := 4) (k := 0) (idx := 9) hX mcl_4 (by decide) mq_187 rfl md_P_multiplyByRoot_45 (fun v5 => ?_)
  refine sp_iload (pc := 48) (i := 4) hX 4 rfl md_P_multiplyByRoot_48 ?_
  refine sp_iaload (pc := 50) hX md_P_multiplyByRoot_50 (fun v6 => ?_)
  refine sp_imul (pc := 51) hX md_P_multiplyByRoot_51 ?_
  refine sp_iadd (pc := 52) hX md_P_multiplyByRoot_52 ?_
  refine sp_iload_n (pc := 53) (k := 2) (i := 2) hX rfl 2 rfl md_P_multiplyByRoot_53 ?_
  refine sp_callSI (pc := 54) (y := my_K_reduce) (ccy := prog_3_method_2_code) (nLy := 2) (ret := (some .int)) (rmy := mr_K_reduce) (n := 2) (idx := 37) (As := [.int (iI (y0 + (x3 * v6))), .int (iI x2)]) (st := [.int (iI x4), .ref v4]) (cells' := 0) (slots' := 0) hX (fun _ h => mc_K_reduce h) mk_K_reduce mq_373 mq_529 ⟨(Nat.le_of_ble_eq_true rfl), (Nat.le_of_ble_eq_true rfl)⟩ rfl rfl (Nat.le_of_ble_eq_true rfl) ⟨(Nat.le_of_ble_eq_true rfl), (Nat.le_of_ble_eq_true rfl)⟩ rfl rfl md_P_multiplyByRoot_54 (fun v8 s7 => ?_)
  refine sp_iastore (pc := 57) hX md_P_multiplyByRoot_57 (fun s9 => ?_)
  refine sp_iinc (pc := 58) (i := 4) (L' := [(4, Value.int (iI (x4 + (-1)))), (5, Value.int (iI y0)), (0, Value.ref x0), (2, Value.int (iI x2)), (3, Value.int (iI x3))]) hX 4 rfl (by decide) rfl md_P_multiplyByRoot_58 ?_
  refine sp_goto (pc := 61) hX 10 (by decide) md_P_multiplyByRoot_61 ?_
  refine sp_sub [2, 3, 4, 0] (L' := [(0, Value.ref x0), (2, Value.int (iI x2)), (3, Value.int (iI x3)), (4, Value.int (iI (x4 + (-1))))]) rfl ?_
  exact h10 x0 x2 x3 (x4 + (-1)) s9
set_option maxHeartbeats 4000000 in
set_option maxRecDepth 20000 in
theorem sl_P_multiplyByRoot_10 {X : pw_X Unit} (hX : pw_Ok X prog_7_method_10_code "PadeWorkbench$Polynomial" mr_P_multiplyByRoot 6) (hR : pw_RV X prog_7_method_10_code) : ∀ (n : Nat) (x0 : Nat) (x2 : Int) (x3 : Int) (x4 : Int) (σ : pw_Sto), pw_Sp X 0 0 10 [(0, Value.ref x0), (2, Value.int (iI x2)), (3, Value.int (iI x3)), (4, Value.int (iI x4))] [] σ (ml_P_multiplyByRoot_10 n x0 x2 x3 x4 σ) := by
  intro n
  induction n with
  | zero => intros; exact pw_none
  | succ n ih =>
    intro x0 x2 x3 x4 σ
    show pw_Sp X 0 0 10 _ _ σ (mb_P_multiplyByRoot_10 (ml_P_multiplyByRoot_10 n) x0 x2 x3 x4 σ)
    unfold mb_P_multiplyByRoot_10
    refine sp_iload (pc := 10) (i := 4) hX 3 rfl md_P_multiplyByRoot_10 ?_
    refine sp_if_lt (pc := 12) hX 64 (by decide) md_P_multiplyByRoot_12 (fun _ => ?_) (fun _ => ?_)
    · refine sp_aload_n (pc := 64) (k := 0) (i := 0) hX rfl 0 rfl md_P_multiplyByRoot_64 ?_
      refine sp_callVV (pc := 65) (y := my_P_measure) (ccy := prog_7_method_6_code) (nLy := 1) (ret := none) (rmy := mr_P_measure) (n := 0) (idx := 28) (As := []) (st := []) (o := x0) (cells' := 0) (slots' := 0) hX (fun _ h => mc_P_measure h) mk_P_measure mv_P_measure mcl_4 (fun _ h => pw_gd_of h) mq_505 ⟨(Nat.le_of_ble_eq_true rfl), (Nat.le_of_ble_eq_true rfl)⟩ rfl rfl (Nat.le_of_ble_eq_true rfl) ⟨(Nat.le_of_ble_eq_true rfl), (Nat.le_of_ble_eq_true rfl)⟩ rfl rfl md_P_multiplyByRoot_65 (fun s3 => ?_)
      exact sp_vret (pc := 68) hX hR rfl (Nat.le_of_ble_eq_true rfl) md_P_multiplyByRoot_68
    · refine sp_iload (pc := 15) (i := 4) hX 3 rfl md_P_multiplyByRoot_15 ?_
      refine sp_if_le (pc := 17) hX 32 (by decide) md_P_multiplyByRoot_17 (fun _ => ?_) (fun _ => ?_)
      · refine sp_iconst (pc := 32) hX md_P_multiplyByRoot_32 ?_
        exact sj_P_multiplyByRoot_33 hX hR ih x0 x2 x3 x4 (0 : Int) σ
      · refine sp_aload_n (pc := 20) (k := 0) (i := 0) hX rfl 0 rfl md_P_multiplyByRoot_20 ?_
        refine sp_getR (pc := 21) (ci := 4) (k := 0) (idx := 9) hX mcl_4 (by decide) mq_187 rfl md_P_multiplyByRoot_21 (fun v10 => ?_)
        refine sp_iload (pc := 24) (i := 4) hX 3 rfl md_P_multiplyByRoot_24 ?_
        refine sp_iconst (pc := 26) hX md_P_multiplyByRoot_26 ?_
        refine sp_isub (pc := 27) hX md_P_multiplyByRoot_27 ?_
        refine sp_iaload (pc := 28) hX md_P_multiplyByRoot_28 (fun v11 => ?_)
        refine sp_goto (pc := 29) hX 33 (by decide) md_P_multiplyByRoot_29 ?_
        exact sj_P_multiplyByRoot_33 hX hR ih x0 x2 x3 x4 v11 σ
set_option maxHeartbeats 4000000 in
set_option maxRecDepth 20000 in
theorem mc_P_multiplyByRoot {l : Launch} {E : pw_E} {σ : pw_Sto} {x0 : Nat} {x1 : Int} {x2 : Int} {out : Unit × pw_Sto} (h : mf_P_multiplyByRoot x0 x1 x2 σ = some out) : pw_CV l E my_P_multiplyByRoot prog_7_method_10_code 6 none mr_P_multiplyByRoot [.ref x0, .int (iI x1), .int (iI x2)] σ out := by
  unfold mf_P_multiplyByRoot at h
  refine pw_entryV (by decide) (Nat.le_of_ble_eq_true rfl) (pw_gd_val h) (fun X hX hR hI => ?_)
  change pw_Ok X prog_7_method_10_code "PadeWorkbench$Polynomial" mr_P_multiplyByRoot 6 at hX
  show pw_Sp X 0 0 0 [(0, Value.ref x0), (1, Value.int (iI x1)), (2, Value.int (iI x2))] [] σ _
  refine sp_iload_n (pc := 0) (k := 1) (i := 1) hX rfl 1 rfl md_P_multiplyByRoot_0 ?_
  refine sp_iload_n (pc := 1) (k := 2) (i := 2) hX rfl 2 rfl md_P_multiplyByRoot_1 ?_
  refine sp_callSI (pc := 2) (y := my_K_negative) (ccy := prog_3_method_3_code) (nLy := 2) (ret := (some .int)) (rmy := mr_K_negative) (n := 2) (idx := 47) (As := [.int (iI x1), .int (iI x2)]) (st := []) (cells' := 0) (slots' := 0) hX (fun _ h => mc_K_negative h) mk_K_negative mq_405 mq_750 ⟨(Nat.le_of_ble_eq_true rfl), (Nat.le_of_ble_eq_true rfl)⟩ rfl rfl (Nat.le_of_ble_eq_true rfl) ⟨(Nat.le_of_ble_eq_true rfl), (Nat.le_of_ble_eq_true rfl)⟩ rfl rfl md_P_multiplyByRoot_2 (fun v2 s1 => ?_)
  refine sp_istore_n (pc := 5) (k := 3) (i := 3) (L' := [(3, Value.int (iI v2)), (0, Value.ref x0), (1, Value.int (iI x1)), (2, Value.int (iI x2))]) hX rfl (by decide) rfl md_P_multiplyByRoot_5 ?_
  refine sp_bipush (pc := 6) hX (by decide) md_P_multiplyByRoot_6 ?_
  refine sp_istore (pc := 8) (i := 4) (L' := [(4, Value.int (iI (16 : Int))), (3, Value.int (iI v2)), (0, Value.ref x0), (1, Value.int (iI x1)), (2, Value.int (iI x2))]) hX (by decide) rfl md_P_multiplyByRoot_8 ?_
  refine sp_sub [2, 4, 1, 0] (L' := [(0, Value.ref x0), (2, Value.int (iI x2)), (3, Value.int (iI v2)), (4, Value.int (iI (16 : Int)))]) rfl ?_
  exact sl_P_multiplyByRoot_10 hX hR 1000 x0 x2 v2 (16 : Int) s1
end
section
/-! PadeWorkbench$State.<init>()V -/
theorem md_Z_init_0 : decode prog_11_method_1_code 0 = .ok (.aload_n 0, 1) := by decide +kernel
theorem md_Z_init_1 : decode prog_11_method_1_code 1 = .ok (.invokespecial 3, 3) := by decide +kernel
theorem md_Z_init_4 : decode prog_11_method_1_code 4 = .ok (.aload_n 0, 1) := by decide +kernel
theorem md_Z_init_5 : decode prog_11_method_1_code 5 = .ok (.bipush 101, 2) := by decide +kernel
theorem md_Z_init_7 : decode prog_11_method_1_code 7 = .ok (.putfield 9, 3) := by decide +kernel
theorem md_Z_init_10 : decode prog_11_method_1_code 10 = .ok (.aload_n 0, 1) := by decide +kernel
theorem md_Z_init_11 : decode prog_11_method_1_code 11 = .ok (.iconst 4, 1) := by decide +kernel
theorem md_Z_init_12 : decode prog_11_method_1_code 12 = .ok (.bipush 16, 2) := by decide +kernel
theorem md_Z_init_14 : decode prog_11_method_1_code 14 = .ok (.multianewarray 15 2, 4) := by decide +kernel
theorem md_Z_init_18 : decode prog_11_method_1_code 18 = .ok (.putfield 17, 3) := by decide +kernel
theorem md_Z_init_21 : decode prog_11_method_1_code 21 = .ok (.aload_n 0, 1) := by decide +kernel
theorem md_Z_init_22 : decode prog_11_method_1_code 22 = .ok (.bipush 10, 2) := by decide +kernel
theorem md_Z_init_24 : decode prog_11_method_1_code 24 = .ok (.newarray .int, 2) := by decide +kernel
theorem md_Z_init_26 : decode prog_11_method_1_code 26 = .ok (.putfield 20, 3) := by decide +kernel
theorem md_Z_init_29 : decode prog_11_method_1_code 29 = .ok (.aload_n 0, 1) := by decide +kernel
theorem md_Z_init_30 : decode prog_11_method_1_code 30 = .ok (.bipush 10, 2) := by decide +kernel
theorem md_Z_init_32 : decode prog_11_method_1_code 32 = .ok (.newarray .int, 2) := by decide +kernel
theorem md_Z_init_34 : decode prog_11_method_1_code 34 = .ok (.putfield 24, 3) := by decide +kernel
theorem md_Z_init_37 : decode prog_11_method_1_code 37 = .ok (.return_, 1) := by decide +kernel
def mf_Z_init (x0 : Nat) (σ : pw_Sto) : Option (Unit × pw_Sto) := (pw_pi 7 x0 0 (101 : Int) σ).bind (fun s1 => pw_bd (pw_nm 4 16 s1) (fun v2 s3 => (pw_pr 7 x0 1 v2 s3).bind (fun s4 => pw_bd (pw_na 10 s4) (fun v5 s6 => (pw_pr 7 x0 3 v5 s6).bind (fun s7 => pw_bd (pw_na 10 s7) (fun v8 s9 => (pw_pr 7 x0 4 v8 s9).bind (fun s10 => some ((), s10))))))))
set_option maxHeartbeats 4000000 in
set_option maxRecDepth 20000 in
theorem mc_Z_init {l : Launch} {E : pw_E} {σ : pw_Sto} {x0 : Nat} {out : Unit × pw_Sto} (h : mf_Z_init x0 σ = some out) : pw_CV l E my_Z_init prog_11_method_1_code 1 none mr_Z_init [.ref x0] σ out := by
  unfold mf_Z_init at h
  refine pw_entryV (by decide) (Nat.le_of_ble_eq_true rfl) h (fun X hX hR hI => ?_)
  change pw_Ok X prog_11_method_1_code "PadeWorkbench$State" mr_Z_init 1 at hX
  show pw_Sp X 0 0 0 [(0, Value.ref x0)] [] σ _
  refine sp_aload_n (pc := 0) (k := 0) (i := 0) hX rfl 0 rfl md_Z_init_0 ?_
  refine sp_objInit (pc := 1) (idx := 3) hX mq_97 mq_90 mq_91 (Nat.le_of_ble_eq_true rfl) (Nat.le_of_ble_eq_true rfl) md_Z_init_1 ?_
  refine sp_aload_n (pc := 4) (k := 0) (i := 0) hX rfl 0 rfl md_Z_init_4 ?_
  refine sp_bipush (pc := 5) hX (by decide) md_Z_init_5 ?_
  refine sp_putI (pc := 7) (ci := 7) (k := 0) (idx := 9) hX mcl_7 (by decide) mq_100 rfl rfl rfl md_Z_init_7 (fun s1 => ?_)
  refine sp_aload_n (pc := 10) (k := 0) (i := 0) hX rfl 0 rfl md_Z_init_10 ?_
  refine sp_iconst (pc := 11) hX md_Z_init_11 ?_
  refine sp_bipush (pc := 12) hX (by decide) md_Z_init_12 ?_
  refine sp_mna (pc := 14) (n := 4) (k := 16) (idx := 15) (cells' := 5) (slots' := 68) hX mq_125 mq_98 (Nat.le_of_ble_eq_true rfl) (Nat.le_of_ble_eq_true rfl) rfl rfl md_Z_init_14 (fun v2 s3 => ?_)
  refine sp_putRF (pc := 18) (ci := 7) (k := 1) (idx := 17) hX mcl_7 (by decide) mq_103 rfl rfl hI rfl mty_7_1 md_Z_init_18 (fun s4 => ?_)
  refine sp_aload_n (pc := 21) (k := 0) (i := 0) hX rfl 0 rfl md_Z_init_21 ?_
  refine sp_bipush (pc := 22) hX (by decide) md_Z_init_22 ?_
  refine sp_newa (pc := 24) (n := 10) (slots' := 78) hX mq_125 (Nat.le_of_ble_eq_true rfl) (Nat.le_of_ble_eq_true rfl) rfl md_Z_init_24 (fun v5 s6 => ?_)
  refine sp_putRF (pc := 26) (ci := 7) (k := 3) (idx := 20) hX mcl_7 (by decide) mq_108 rfl rfl hI rfl mty_7_3 md_Z_init_26 (fun s7 => ?_)
  refine sp_aload_n (pc := 29) (k := 0) (i := 0) hX rfl 0 rfl md_Z_init_29 ?_
  refine sp_bipush (pc := 30) hX (by decide) md_Z_init_30 ?_
  refine sp_newa (pc := 32) (n := 10) (slots' := 88) hX mq_125 (Nat.le_of_ble_eq_true rfl) (Nat.le_of_ble_eq_true rfl) rfl md_Z_init_32 (fun v8 s9 => ?_)
  refine sp_putRF (pc := 34) (ci := 7) (k := 4) (idx := 24) hX mcl_7 (by decide) mq_111 rfl rfl hI rfl mty_7_4 md_Z_init_34 (fun s10 => ?_)
  exact sp_vret (pc := 37) hX hR rfl (Nat.le_of_ble_eq_true rfl) md_Z_init_37
/-! PadeWorkbench$History.<init>()V -/
theorem md_H_init_0 : decode prog_6_method_1_code 0 = .ok (.aload_n 0, 1) := by decide +kernel
theorem md_H_init_1 : decode prog_6_method_1_code 1 = .ok (.invokespecial 3, 3) := by decide +kernel
theorem md_H_init_4 : decode prog_6_method_1_code 4 = .ok (.aload_n 0, 1) := by decide +kernel
theorem md_H_init_5 : decode prog_6_method_1_code 5 = .ok (.iconst 4, 1) := by decide +kernel
theorem md_H_init_6 : decode prog_6_method_1_code 6 = .ok (.anewarray 9, 3) := by decide +kernel
theorem md_H_init_9 : decode prog_6_method_1_code 9 = .ok (.putfield 11, 3) := by decide +kernel
theorem md_H_init_12 : decode prog_6_method_1_code 12 = .ok (.iconst 0, 1) := by decide +kernel
theorem md_H_init_13 : decode prog_6_method_1_code 13 = .ok (.istore_n 1, 1) := by decide +kernel
theorem md_H_init_14 : decode prog_6_method_1_code 14 = .ok (.iload_n 1, 1) := by decide +kernel
theorem md_H_init_15 : decode prog_6_method_1_code 15 = .ok (.iconst 4, 1) := by decide +kernel
theorem md_H_init_16 : decode prog_6_method_1_code 16 = .ok (.if_icmp .ge 22, 3) := by decide +kernel
theorem md_H_init_19 : decode prog_6_method_1_code 19 = .ok (.aload_n 0, 1) := by decide +kernel
theorem md_H_init_20 : decode prog_6_method_1_code 20 = .ok (.getfield 11, 3) := by decide +kernel
theorem md_H_init_23 : decode prog_6_method_1_code 23 = .ok (.iload_n 1, 1) := by decide +kernel
theorem md_H_init_24 : decode prog_6_method_1_code 24 = .ok (.new 9, 3) := by decide +kernel
theorem md_H_init_27 : decode prog_6_method_1_code 27 = .ok (.dup, 1) := by decide +kernel
theorem md_H_init_28 : decode prog_6_method_1_code 28 = .ok (.invokespecial 17, 3) := by decide +kernel
theorem md_H_init_31 : decode prog_6_method_1_code 31 = .ok (.aastore, 1) := by decide +kernel
theorem md_H_init_32 : decode prog_6_method_1_code 32 = .ok (.iinc 1 1, 3) := by decide +kernel
theorem md_H_init_35 : decode prog_6_method_1_code 35 = .ok (.goto (-21), 3) := by decide +kernel
theorem md_H_init_38 : decode prog_6_method_1_code 38 = .ok (.return_, 1) := by decide +kernel
def mf_H_init (x0 : Nat) (σ : pw_Sto) : Option (Unit × pw_Sto) := pw_bd (pw_nq 4 σ) (fun v1 s2 => (pw_pr 3 x0 0 v1 s2).bind (fun s3 => (pw_gr 3 x0 0 s3).bind (fun v4 => pw_bd (pw_nw 7 s3) (fun v5 s6 => pw_bd (mf_Z_init v5 s6) (fun _ s7 => (pw_sr 12 v4 (0 : Int) 7 v5 s7).bind (fun s8 => (pw_gr 3 x0 0 s8).bind (fun v9 => pw_bd (pw_nw 7 s8) (fun v10 s11 => pw_bd (mf_Z_init v10 s11) (fun _ s12 => (pw_sr 12 v9 (1 : Int) 7 v10 s12).bind (fun s13 => (pw_gr 3 x0 0 s13).bind (fun v14 => pw_bd (pw_nw 7 s13) (fun v15 s16 => pw_bd (mf_Z_init v15 s16) (fun _ s17 => (pw_sr 12 v14 (2 : Int) 7 v15 s17).bind (fun s18 => (pw_gr 3 x0 0 s18).bind (fun v19 => pw_bd (pw_nw 7 s18) (fun v20 s21 => pw_bd (mf_Z_init v20 s21) (fun _ s22 => (pw_sr 12 v19 (3 : Int) 7 v20 s22).bind (fun s23 => some ((), s23)))))))))))))))))))
set_option maxHeartbeats 4000000 in
set_option maxRecDepth 20000 in
theorem mc_H_init {l : Launch} {E : pw_E} {σ : pw_Sto} {x0 : Nat} {out : Unit × pw_Sto} (h : mf_H_init x0 σ = some out) : pw_CV l E my_H_init prog_6_method_1_code 2 none mr_H_init [.ref x0] σ out := by
  unfold mf_H_init at h
  refine pw_entryV (by decide) (Nat.le_of_ble_eq_true rfl) h (fun X hX hR hI => ?_)
  change pw_Ok X prog_6_method_1_code "PadeWorkbench$History" mr_H_init 2 at hX
  show pw_Sp X 0 0 0 [(0, Value.ref x0)] [] σ _
  refine sp_aload_n (pc := 0) (k := 0) (i := 0) hX rfl 0 rfl md_H_init_0 ?_
  refine sp_objInit (pc := 1) (idx := 3) hX mq_131 mq_90 mq_91 (Nat.le_of_ble_eq_true rfl) (Nat.le_of_ble_eq_true rfl) md_H_init_1 ?_
  refine sp_aload_n (pc := 4) (k := 0) (i := 0) hX rfl 0 rfl md_H_init_4 ?_
  refine sp_iconst (pc := 5) hX md_H_init_5 ?_
  refine sp_newq (pc := 6) (n := 4) (idx := 9) (slots' := 4) hX mq_132 (Nat.le_of_ble_eq_true rfl) (Nat.le_of_ble_eq_true rfl) rfl md_H_init_6 (fun v1 s2 => ?_)
  refine sp_putRF (pc := 9) (ci := 3) (k := 0) (idx := 11) hX mcl_3 (by decide) mq_135 rfl rfl hI rfl mty_3_0 md_H_init_9 (fun s3 => ?_)
  refine sp_iconst (pc := 12) hX md_H_init_12 ?_
  refine sp_istore_n (pc := 13) (k := 1) (i := 1) (L' := [(1, Value.int (iI (0 : Int))), (0, Value.ref x0)]) hX rfl (by decide) rfl md_H_init_13 ?_
  refine sp_iload_n (pc := 14) (k := 1) (i := 1) hX rfl 0 rfl md_H_init_14 ?_
  refine sp_iconst (pc := 15) hX md_H_init_15 ?_
  refine sp_icmp_geF (pc := 16) hX (by decide) (by decide) md_H_init_16 ?_
  refine sp_aload_n (pc := 19) (k := 0) (i := 0) hX rfl 1 rfl md_H_init_19 ?_
  refine sp_getR (pc := 20) (ci := 3) (k := 0) (idx := 11) hX mcl_3 (by decide) mq_135 rfl md_H_init_20 (fun v4 => ?_)
  refine sp_iload_n (pc := 23) (k := 1) (i := 1) hX rfl 0 rfl md_H_init_23 ?_
  refine sp_new (pc := 24) (ci := 7) (idx := 9) (slots' := 9) hX mcl_7 mdf_7 mq_132 mq_93 mq_70 (Nat.le_of_ble_eq_true rfl) (Nat.le_of_ble_eq_true rfl) rfl md_H_init_24 (fun v5 s6 => ?_)
  refine sp_dup (pc := 27) hX rfl md_H_init_27 ?_
  refine sp_callIVN (pc := 28) (y := my_Z_init) (ccy := prog_11_method_1_code) (nLy := 1) (rmy := mr_Z_init) (n := 0) (idx := 17) (As := []) (st := [.ref v5, .int (iI (0 : Int)), .ref v4]) (o := v5) (cells' := 9) (slots' := 97) hX (fun _ h => mc_Z_init h) mk_Z_init mq_95 rfl mn_134 ⟨(Nat.le_of_ble_eq_true rfl), (Nat.le_of_ble_eq_true rfl)⟩ rfl rfl (Nat.le_of_ble_eq_true rfl) ⟨(Nat.le_of_ble_eq_true rfl), (Nat.le_of_ble_eq_true rfl)⟩ rfl rfl md_H_init_28 (fun s7 => ?_)
  refine sp_aastore (pc := 31) hX md_H_init_31 (fun s8 => ?_)
  refine sp_iinc (pc := 32) (i := 1) (L' := [(1, Value.int (iI (1 : Int))), (0, Value.ref x0)]) hX 0 rfl (by decide) rfl md_H_init_32 ?_
  refine sp_goto (pc := 35) hX 14 (by decide) md_H_init_35 ?_
  refine sp_iload_n (pc := 14) (k := 1) (i := 1) hX rfl 0 rfl md_H_init_14 ?_
  refine sp_iconst (pc := 15) hX md_H_init_15 ?_
  refine sp_icmp_geF (pc := 16) hX (by decide) (by decide) md_H_init_16 ?_
  refine sp_aload_n (pc := 19) (k := 0) (i := 0) hX rfl 1 rfl md_H_init_19 ?_
  refine sp_getR (pc := 20) (ci := 3) (k := 0) (idx := 11) hX mcl_3 (by decide) mq_135 rfl md_H_init_20 (fun v9 => ?_)
  refine sp_iload_n (pc := 23) (k := 1) (i := 1) hX rfl 0 rfl md_H_init_23 ?_
  refine sp_new (pc := 24) (ci := 7) (idx := 9) (slots' := 102) hX mcl_7 mdf_7 mq_132 mq_93 mq_70 (Nat.le_of_ble_eq_true rfl) (Nat.le_of_ble_eq_true rfl) rfl md_H_init_24 (fun v10 s11 => ?_)
  refine sp_dup (pc := 27) hX rfl md_H_init_27 ?_
  refine sp_callIVN (pc := 28) (y := my_Z_init) (ccy := prog_11_method_1_code) (nLy := 1) (rmy := mr_Z_init) (n := 0) (idx := 17) (As := []) (st := [.ref v10, .int (iI (1 : Int)), .ref v9]) (o := v10) (cells' := 17) (slots' := 190) hX (fun _ h => mc_Z_init h) mk_Z_init mq_95 rfl mn_134 ⟨(Nat.le_of_ble_eq_true rfl), (Nat.le_of_ble_eq_true rfl)⟩ rfl rfl (Nat.le_of_ble_eq_true rfl) ⟨(Nat.le_of_ble_eq_true rfl), (Nat.le_of_ble_eq_true rfl)⟩ rfl rfl md_H_init_28 (fun s12 => ?_)
  refine sp_aastore (pc := 31) hX md_H_init_31 (fun s13 => ?_)
  refine sp_iinc (pc := 32) (i := 1) (L' := [(1, Value.int (iI (2 : Int))), (0, Value.ref x0)]) hX 0 rfl (by decide) rfl md_H_init_32 ?_
  refine sp_goto (pc := 35) hX 14 (by decide) md_H_init_35 ?_
  refine sp_iload_n (pc := 14) (k := 1) (i := 1) hX rfl 0 rfl md_H_init_14 ?_
  refine sp_iconst (pc := 15) hX md_H_init_15 ?_
  refine sp_icmp_geF (pc := 16) hX (by decide) (by decide) md_H_init_16 ?_
  refine sp_aload_n (pc := 19) (k := 0) (i := 0) hX rfl 1 rfl md_H_init_19 ?_
  refine sp_getR (pc := 20) (ci := 3) (k := 0) (idx := 11) hX mcl_3 (by decide) mq_135 rfl md_H_init_20 (fun v14 => ?_)
  refine sp_iload_n (pc := 23) (k := 1) (i := 1) hX rfl 0 rfl md_H_init_23 ?_
  refine sp_new (pc := 24) (ci := 7) (idx := 9) (slots' := 195) hX mcl_7 mdf_7 mq_132 mq_93 mq_70 (Nat.le_of_ble_eq_true rfl) (Nat.le_of_ble_eq_true rfl) rfl md_H_init_24 (fun v15 s16 => ?_)
  refine sp_dup (pc := 27) hX rfl md_H_init_27 ?_
  refine sp_callIVN (pc := 28) (y := my_Z_init) (ccy := prog_11_method_1_code) (nLy := 1) (rmy := mr_Z_init) (n := 0) (idx := 17) (As := []) (st := [.ref v15, .int (iI (2 : Int)), .ref v14]) (o := v15) (cells' := 25) (slots' := 283) hX (fun _ h => mc_Z_init h) mk_Z_init mq_95 rfl mn_134 ⟨(Nat.le_of_ble_eq_true rfl), (Nat.le_of_ble_eq_true rfl)⟩ rfl rfl (Nat.le_of_ble_eq_true rfl) ⟨(Nat.le_of_ble_eq_true rfl), (Nat.le_of_ble_eq_true rfl)⟩ rfl rfl md_H_init_28 (fun s17 => ?_)
  refine sp_aastore (pc := 31) hX md_H_init_31 (fun s18 => ?_)
  refine sp_iinc (pc := 32) (i := 1) (L' := [(1, Value.int (iI (3 : Int))), (0, Value.ref x0)]) hX 0 rfl (by decide) rfl md_H_init_32 ?_
  refine sp_goto (pc := 35) hX 14 (by decide) md_H_init_35 ?_
  refine sp_iload_n (pc := 14) (k := 1) (i := 1) hX rfl 0 rfl md_H_init_14 ?_
  refine sp_iconst (pc := 15) hX md_H_init_15 ?_
  refine sp_icmp_geF (pc := 16) hX (by decide) (by decide) md_H_init_16 ?_
  refine sp_aload_n (pc := 19) (k := 0) (i := 0) hX rfl 1 rfl md_H_init_19 ?_
  refine sp_getR (pc := 20) (ci := 3) (k := 0) (idx := 11) hX mcl_3 (by decide) mq_135 rfl md_H_init_20 (fun v19 => ?_)
  refine sp_iload_n (pc := 23) (k := 1) (i := 1) hX rfl 0 rfl md_H_init_23 ?_
  refine sp_new (pc := 24) (ci := 7) (idx := 9) (slots' := 288) hX mcl_7 mdf_7 mq_132 mq_93 mq_70 (Nat.le_of_ble_eq_true rfl) (Nat.le_of_ble_eq_true rfl) rfl md_H_init_24 (fun v20 s21 => ?_)
  refine sp_dup (pc := 27) hX rfl md_H_init_27 ?_
  refine sp_callIVN (pc := 28) (y := my_Z_init) (ccy := prog_11_method_1_code) (nLy := 1) (rmy := mr_Z_init) (n := 0) (idx := 17) (As := []) (st := [.ref v20, .int (iI (3 : Int)), .ref v19]) (o := v20) (cells' := 33) (slots' := 376) hX (fun _ h => mc_Z_init h) mk_Z_init mq_95 rfl mn_134 ⟨(Nat.le_of_ble_eq_true rfl), (Nat.le_of_ble_eq_true rfl)⟩ rfl rfl (Nat.le_of_ble_eq_true rfl) ⟨(Nat.le_of_ble_eq_true rfl), (Nat.le_of_ble_eq_true rfl)⟩ rfl rfl md_H_init_28 (fun s22 => ?_)
  refine sp_aastore (pc := 31) hX md_H_init_31 (fun s23 => ?_)
  refine sp_iinc (pc := 32) (i := 1) (L' := [(1, Value.int (iI (4 : Int))), (0, Value.ref x0)]) hX 0 rfl (by decide) rfl md_H_init_32 ?_
  refine sp_goto (pc := 35) hX 14 (by decide) md_H_init_35 ?_
  refine sp_iload_n (pc := 14) (k := 1) (i := 1) hX rfl 0 rfl md_H_init_14 ?_
  refine sp_iconst (pc := 15) hX md_H_init_15 ?_
  refine sp_icmp_geT (pc := 16) hX 38 (by decide) (by decide) (by decide) md_H_init_16 ?_
  exact sp_vret (pc := 38) hX hR rfl (Nat.le_of_ble_eq_true rfl) md_H_init_38
/-! PadeWorkbench$FractionText.<init>()V -/
theorem md_T_init_0 : decode prog_5_method_1_code 0 = .ok (.aload_n 0, 1) := by decide +kernel
theorem md_T_init_1 : decode prog_5_method_1_code 1 = .ok (.invokespecial 3, 3) := by decide +kernel
theorem md_T_init_4 : decode prog_5_method_1_code 4 = .ok (.aload_n 0, 1) := by decide +kernel
theorem md_T_init_5 : decode prog_5_method_1_code 5 = .ok (.bipush 80, 2) := by decide +kernel
theorem md_T_init_7 : decode prog_5_method_1_code 7 = .ok (.newarray .int, 2) := by decide +kernel
theorem md_T_init_9 : decode prog_5_method_1_code 9 = .ok (.putfield 9, 3) := by decide +kernel
theorem md_T_init_12 : decode prog_5_method_1_code 12 = .ok (.aload_n 0, 1) := by decide +kernel
theorem md_T_init_13 : decode prog_5_method_1_code 13 = .ok (.bipush 16, 2) := by decide +kernel
theorem md_T_init_15 : decode prog_5_method_1_code 15 = .ok (.newarray .int, 2) := by decide +kernel
theorem md_T_init_17 : decode prog_5_method_1_code 17 = .ok (.putfield 15, 3) := by decide +kernel
theorem md_T_init_20 : decode prog_5_method_1_code 20 = .ok (.aload_n 0, 1) := by decide +kernel
theorem md_T_init_21 : decode prog_5_method_1_code 21 = .ok (.bipush 16, 2) := by decide +kernel
theorem md_T_init_23 : decode prog_5_method_1_code 23 = .ok (.newarray .int, 2) := by decide +kernel
theorem md_T_init_25 : decode prog_5_method_1_code 25 = .ok (.putfield 18, 3) := by decide +kernel
theorem md_T_init_28 : decode prog_5_method_1_code 28 = .ok (.return_, 1) := by decide +kernel
def mf_T_init (x0 : Nat) (σ : pw_Sto) : Option (Unit × pw_Sto) := pw_bd (pw_na 80 σ) (fun v1 s2 => (pw_pr 2 x0 0 v1 s2).bind (fun s3 => pw_bd (pw_na 16 s3) (fun v4 s5 => (pw_pr 2 x0 4 v4 s5).bind (fun s6 => pw_bd (pw_na 16 s6) (fun v7 s8 => (pw_pr 2 x0 5 v7 s8).bind (fun s9 => some ((), s9)))))))
set_option maxHeartbeats 4000000 in
set_option maxRecDepth 20000 in
theorem mc_T_init {l : Launch} {E : pw_E} {σ : pw_Sto} {x0 : Nat} {out : Unit × pw_Sto} (h : mf_T_init x0 σ = some out) : pw_CV l E my_T_init prog_5_method_1_code 1 none mr_T_init [.ref x0] σ out := by
  unfold mf_T_init at h
  refine pw_entryV (by decide) (Nat.le_of_ble_eq_true rfl) h (fun X hX hR hI => ?_)
  change pw_Ok X prog_5_method_1_code "PadeWorkbench$FractionText" mr_T_init 1 at hX
  show pw_Sp X 0 0 0 [(0, Value.ref x0)] [] σ _
  refine sp_aload_n (pc := 0) (k := 0) (i := 0) hX rfl 0 rfl md_T_init_0 ?_
  refine sp_objInit (pc := 1) (idx := 3) hX mq_151 mq_90 mq_91 (Nat.le_of_ble_eq_true rfl) (Nat.le_of_ble_eq_true rfl) md_T_init_1 ?_
  refine sp_aload_n (pc := 4) (k := 0) (i := 0) hX rfl 0 rfl md_T_init_4 ?_
  refine sp_bipush (pc := 5) hX (by decide) md_T_init_5 ?_
  refine sp_newa (pc := 7) (n := 80) (slots' := 80) hX mq_125 (Nat.le_of_ble_eq_true rfl) (Nat.le_of_ble_eq_true rfl) rfl md_T_init_7 (fun v1 s2 => ?_)
  refine sp_putRF (pc := 9) (ci := 2) (k := 0) (idx := 9) hX mcl_2 (by decide) mq_152 rfl rfl hI rfl mty_2_0 md_T_init_9 (fun s3 => ?_)
  refine sp_aload_n (pc := 12) (k := 0) (i := 0) hX rfl 0 rfl md_T_init_12 ?_
  refine sp_bipush (pc := 13) hX (by decide) md_T_init_13 ?_
  refine sp_newa (pc := 15) (n := 16) (slots' := 96) hX mq_125 (Nat.le_of_ble_eq_true rfl) (Nat.le_of_ble_eq_true rfl) rfl md_T_init_15 (fun v4 s5 => ?_)
  refine sp_putRF (pc := 17) (ci := 2) (k := 4) (idx := 15) hX mcl_2 (by decide) mq_158 rfl rfl hI rfl mty_2_4 md_T_init_17 (fun s6 => ?_)
  refine sp_aload_n (pc := 20) (k := 0) (i := 0) hX rfl 0 rfl md_T_init_20 ?_
  refine sp_bipush (pc := 21) hX (by decide) md_T_init_21 ?_
  refine sp_newa (pc := 23) (n := 16) (slots' := 112) hX mq_125 (Nat.le_of_ble_eq_true rfl) (Nat.le_of_ble_eq_true rfl) rfl md_T_init_23 (fun v7 s8 => ?_)
  refine sp_putRF (pc := 25) (ci := 2) (k := 5) (idx := 18) hX mcl_2 (by decide) mq_160 rfl rfl hI rfl mty_2_5 md_T_init_25 (fun s9 => ?_)
  exact sp_vret (pc := 28) hX hR rfl (Nat.le_of_ble_eq_true rfl) md_T_init_28
/-! PadeWorkbench$State.copyFrom(LPadeWorkbench$State;)V -/
theorem md_Z_copyFrom_0 : decode prog_11_method_2_code 0 = .ok (.aload_n 0, 1) := by decide +kernel
theorem md_Z_copyFrom_1 : decode prog_11_method_2_code 1 = .ok (.aload_n 1, 1) := by decide +kernel
theorem md_Z_copyFrom_2 : decode prog_11_method_2_code 2 = .ok (.getfield 9, 3) := by decide +kernel
theorem md_Z_copyFrom_5 : decode prog_11_method_2_code 5 = .ok (.putfield 9, 3) := by decide +kernel
theorem md_Z_copyFrom_8 : decode prog_11_method_2_code 8 = .ok (.iconst 0, 1) := by decide +kernel
theorem md_Z_copyFrom_9 : decode prog_11_method_2_code 9 = .ok (.istore_n 2, 1) := by decide +kernel
theorem md_Z_copyFrom_10 : decode prog_11_method_2_code 10 = .ok (.iload_n 2, 1) := by decide +kernel
theorem md_Z_copyFrom_11 : decode prog_11_method_2_code 11 = .ok (.iconst 4, 1) := by decide +kernel
theorem md_Z_copyFrom_12 : decode prog_11_method_2_code 12 = .ok (.if_icmp .ge 28, 3) := by decide +kernel
theorem md_Z_copyFrom_40 : decode prog_11_method_2_code 40 = .ok (.aload_n 0, 1) := by decide +kernel
theorem md_Z_copyFrom_41 : decode prog_11_method_2_code 41 = .ok (.aload_n 1, 1) := by decide +kernel
theorem md_Z_copyFrom_42 : decode prog_11_method_2_code 42 = .ok (.getfield 33, 3) := by decide +kernel
theorem md_Z_copyFrom_45 : decode prog_11_method_2_code 45 = .ok (.putfield 33, 3) := by decide +kernel
theorem md_Z_copyFrom_48 : decode prog_11_method_2_code 48 = .ok (.aload_n 1, 1) := by decide +kernel
theorem md_Z_copyFrom_49 : decode prog_11_method_2_code 49 = .ok (.getfield 20, 3) := by decide +kernel
theorem md_Z_copyFrom_52 : decode prog_11_method_2_code 52 = .ok (.iconst 0, 1) := by decide +kernel
theorem md_Z_copyFrom_53 : decode prog_11_method_2_code 53 = .ok (.aload_n 0, 1) := by decide +kernel
theorem md_Z_copyFrom_54 : decode prog_11_method_2_code 54 = .ok (.getfield 20, 3) := by decide +kernel
theorem md_Z_copyFrom_57 : decode prog_11_method_2_code 57 = .ok (.iconst 0, 1) := by decide +kernel
theorem md_Z_copyFrom_58 : decode prog_11_method_2_code 58 = .ok (.bipush 10, 2) := by decide +kernel
theorem md_Z_copyFrom_60 : decode prog_11_method_2_code 60 = .ok (.invokestatic 27, 3) := by decide +kernel
theorem md_Z_copyFrom_63 : decode prog_11_method_2_code 63 = .ok (.aload_n 1, 1) := by decide +kernel
theorem md_Z_copyFrom_64 : decode prog_11_method_2_code 64 = .ok (.getfield 24, 3) := by decide +kernel
theorem md_Z_copyFrom_67 : decode prog_11_method_2_code 67 = .ok (.iconst 0, 1) := by decide +kernel
theorem md_Z_copyFrom_68 : decode prog_11_method_2_code 68 = .ok (.aload_n 0, 1) := by decide +kernel
theorem md_Z_copyFrom_69 : decode prog_11_method_2_code 69 = .ok (.getfield 24, 3) := by decide +kernel
theorem md_Z_copyFrom_72 : decode prog_11_method_2_code 72 = .ok (.iconst 0, 1) := by decide +kernel
theorem md_Z_copyFrom_73 : decode prog_11_method_2_code 73 = .ok (.bipush 10, 2) := by decide +kernel
theorem md_Z_copyFrom_75 : decode prog_11_method_2_code 75 = .ok (.invokestatic 27, 3) := by decide +kernel
theorem md_Z_copyFrom_78 : decode prog_11_method_2_code 78 = .ok (.return_, 1) := by decide +kernel
theorem md_Z_copyFrom_15 : decode prog_11_method_2_code 15 = .ok (.aload_n 1, 1) := by decide +kernel
theorem md_Z_copyFrom_16 : decode prog_11_method_2_code 16 = .ok (.getfield 17, 3) := by decide +kernel
theorem md_Z_copyFrom_19 : decode prog_11_method_2_code 19 = .ok (.iload_n 2, 1) := by decide +kernel
theorem md_Z_copyFrom_20 : decode prog_11_method_2_code 20 = .ok (.aaload, 1) := by decide +kernel
theorem md_Z_copyFrom_21 : decode prog_11_method_2_code 21 = .ok (.iconst 0, 1) := by decide +kernel
theorem md_Z_copyFrom_22 : decode prog_11_method_2_code 22 = .ok (.aload_n 0, 1) := by decide +kernel
theorem md_Z_copyFrom_23 : decode prog_11_method_2_code 23 = .ok (.getfield 17, 3) := by decide +kernel
theorem md_Z_copyFrom_26 : decode prog_11_method_2_code 26 = .ok (.iload_n 2, 1) := by decide +kernel
theorem md_Z_copyFrom_27 : decode prog_11_method_2_code 27 = .ok (.aaload, 1) := by decide +kernel
theorem md_Z_copyFrom_28 : decode prog_11_method_2_code 28 = .ok (.iconst 0, 1) := by decide +kernel
theorem md_Z_copyFrom_29 : decode prog_11_method_2_code 29 = .ok (.bipush 16, 2) := by decide +kernel
theorem md_Z_copyFrom_31 : decode prog_11_method_2_code 31 = .ok (.invokestatic 27, 3) := by decide +kernel
theorem md_Z_copyFrom_34 : decode prog_11_method_2_code 34 = .ok (.iinc 2 1, 3) := by decide +kernel
theorem md_Z_copyFrom_37 : decode prog_11_method_2_code 37 = .ok (.goto (-27), 3) := by decide +kernel
def mb_Z_copyFrom_10 (rc : Nat → Nat → Int → pw_Sto → Option (Unit × pw_Sto)) : Nat → Nat → Int → pw_Sto → Option (Unit × pw_Sto) := fun x0 x1 x2 σ => pw_ck x2 (4 : Int) (if (4 : Int) ≤ x2 then (pw_gi 7 x1 2 σ).bind (fun v3 => (pw_pi 7 x0 2 v3 σ).bind (fun s4 => (pw_gr 7 x1 3 s4).bind (fun v5 => (pw_gr 7 x0 3 s4).bind (fun v6 => (pw_cp v5 (0 : Int) v6 (0 : Int) (10 : Int) s4).bind (fun s7 => (pw_gr 7 x1 4 s7).bind (fun v8 => (pw_gr 7 x0 4 s7).bind (fun v9 => (pw_cp v8 (0 : Int) v9 (0 : Int) (10 : Int) s7).bind (fun s10 => some ((), s10))))))))) else (pw_gr 7 x1 1 σ).bind (fun v11 => (pw_ar 13 v11 x2 σ).bind (fun v12 => (pw_gr 7 x0 1 σ).bind (fun v13 => (pw_ar 13 v13 x2 σ).bind (fun v14 => (pw_cp v12 (0 : Int) v14 (0 : Int) (16 : Int) σ).bind (fun s15 => rc x0 x1 (x2 + 1) s15))))))
def ml_Z_copyFrom_10 : Nat → Nat → Nat → Int → pw_Sto → Option (Unit × pw_Sto) := pw_lp (fun _ _ _ _ => none) (mb_Z_copyFrom_10)
def mf_Z_copyFrom (x0 : Nat) (x1 : Nat) (σ : pw_Sto) : Option (Unit × pw_Sto) := pw_gd 7 x0 σ ((pw_gi 7 x1 0 σ).bind (fun v1 => (pw_pi 7 x0 0 v1 σ).bind (fun s2 => ml_Z_copyFrom_10 1000 x0 x1 (0 : Int) s2)))
set_option maxHeartbeats 4000000 in
set_option maxRecDepth 20000 in
theorem sl_Z_copyFrom_10 {X : pw_X Unit} (hX : pw_Ok X prog_11_method_2_code "PadeWorkbench$State" mr_Z_copyFrom 3) (hR : pw_RV X prog_11_method_2_code) : ∀ (n : Nat) (x0 : Nat) (x1 : Nat) (x2 : Int) (σ : pw_Sto), pw_Sp X 0 0 10 [(0, Value.ref x0), (1, Value.ref x1), (2, Value.int (iI x2))] [] σ (ml_Z_copyFrom_10 n x0 x1 x2 σ) := by
  intro n
  induction n with
  | zero => intros; exact pw_none
  | succ n ih =>
    intro x0 x1 x2 σ
    show pw_Sp X 0 0 10 _ _ σ (mb_Z_copyFrom_10 (ml_Z_copyFrom_10 n) x0 x1 x2 σ)
    unfold mb_Z_copyFrom_10
    refine sp_iload_n (pc := 10) (k := 2) (i := 2) hX rfl 2 rfl md_Z_copyFrom_10 ?_
    refine sp_iconst (pc := 11) hX md_Z_copyFrom_11 ?_
    refine sp_icmp_ge (pc := 12) hX 40 (by decide) md_Z_copyFrom_12 (fun _ => ?_) (fun _ => ?_)
    · refine sp_aload_n (pc := 40) (k := 0) (i := 0) hX rfl 0 rfl md_Z_copyFrom_40 ?_
      refine sp_aload_n (pc := 41) (k := 1) (i := 1) hX rfl 1 rfl md_Z_copyFrom_41 ?_
      refine sp_getI (pc := 42) (ci := 7) (k := 2) (idx := 33) hX mcl_7 (by decide) mq_105 rfl md_Z_copyFrom_42 (fun v3 => ?_)
      refine sp_putI (pc := 45) (ci := 7) (k := 2) (idx := 33) hX mcl_7 (by decide) mq_105 rfl rfl rfl md_Z_copyFrom_45 (fun s4 => ?_)
      refine sp_aload_n (pc := 48) (k := 1) (i := 1) hX rfl 1 rfl md_Z_copyFrom_48 ?_
      refine sp_getR (pc := 49) (ci := 7) (k := 3) (idx := 20) hX mcl_7 (by decide) mq_108 rfl md_Z_copyFrom_49 (fun v5 => ?_)
      refine sp_iconst (pc := 52) hX md_Z_copyFrom_52 ?_
      refine sp_aload_n (pc := 53) (k := 0) (i := 0) hX rfl 0 rfl md_Z_copyFrom_53 ?_
      refine sp_getR (pc := 54) (ci := 7) (k := 3) (idx := 20) hX mcl_7 (by decide) mq_108 rfl md_Z_copyFrom_54 (fun v6 => ?_)
      refine sp_iconst (pc := 57) hX md_Z_copyFrom_57 ?_
      refine sp_bipush (pc := 58) hX (by decide) md_Z_copyFrom_58 ?_
      refine sp_copy (pc := 60) (idx := 27) hX mq_337 mq_339 mq_338 mq_80 (Nat.le_of_ble_eq_true rfl) (Nat.le_of_ble_eq_true rfl) md_Z_copyFrom_60 (fun s7 => ?_)
      refine sp_aload_n (pc := 63) (k := 1) (i := 1) hX rfl 1 rfl md_Z_copyFrom_63 ?_
      refine sp_getR (pc := 64) (ci := 7) (k := 4) (idx := 24) hX mcl_7 (by decide) mq_111 rfl md_Z_copyFrom_64 (fun v8 => ?_)
      refine sp_iconst (pc := 67) hX md_Z_copyFrom_67 ?_
      refine sp_aload_n (pc := 68) (k := 0) (i := 0) hX rfl 0 rfl md_Z_copyFrom_68 ?_
      refine sp_getR (pc := 69) (ci := 7) (k := 4) (idx := 24) hX mcl_7 (by decide) mq_111 rfl md_Z_copyFrom_69 (fun v9 => ?_)
      refine sp_iconst (pc := 72) hX md_Z_copyFrom_72 ?_
      refine sp_bipush (pc := 73) hX (by decide) md_Z_copyFrom_73 ?_
      refine sp_copy (pc := 75) (idx := 27) hX mq_337 mq_339 mq_338 mq_80 (Nat.le_of_ble_eq_true rfl) (Nat.le_of_ble_eq_true rfl) md_Z_copyFrom_75 (fun s10 => ?_)
      exact sp_vret (pc := 78) hX hR rfl (Nat.le_of_ble_eq_true rfl) md_Z_copyFrom_78
    · refine sp_aload_n (pc := 15) (k := 1) (i := 1) hX rfl 1 rfl md_Z_copyFrom_15 ?_
      refine sp_getR (pc := 16) (ci := 7) (k := 1) (idx := 17) hX mcl_7 (by decide) mq_103 rfl md_Z_copyFrom_16 (fun v11 => ?_)
      refine sp_iload_n (pc := 19) (k := 2) (i := 2) hX rfl 2 rfl md_Z_copyFrom_19 ?_
      refine sp_aaG (pc := 20) hX md_Z_copyFrom_20 (fun v12 => ?_)
      refine sp_iconst (pc := 21) hX md_Z_copyFrom_21 ?_
      refine sp_aload_n (pc := 22) (k := 0) (i := 0) hX rfl 0 rfl md_Z_copyFrom_22 ?_
      refine sp_getR (pc := 23) (ci := 7) (k := 1) (idx := 17) hX mcl_7 (by decide) mq_103 rfl md_Z_copyFrom_23 (fun v13 => ?_)
      refine sp_iload_n (pc := 26) (k := 2) (i := 2) hX rfl 2 rfl md_Z_copyFrom_26 ?_
      refine sp_aaG (pc := 27) hX md_Z_copyFrom_27 (fun v14 => ?_)
      refine sp_iconst (pc := 28) hX md_Z_copyFrom_28 ?_
      refine sp_bipush (pc := 29) hX (by decide) md_Z_copyFrom_29 ?_
      refine sp_copy (pc := 31) (idx := 27) hX mq_337 mq_339 mq_338 mq_80 (Nat.le_of_ble_eq_true rfl) (Nat.le_of_ble_eq_true rfl) md_Z_copyFrom_31 (fun s15 => ?_)
      refine sp_iinc (pc := 34) (i := 2) (L' := [(2, Value.int (iI (x2 + 1))), (0, Value.ref x0), (1, Value.ref x1)]) hX 2 rfl (by decide) rfl md_Z_copyFrom_34 ?_
      refine sp_goto (pc := 37) hX 10 (by decide) md_Z_copyFrom_37 ?_
      refine sp_sub [1, 2, 0] (L' := [(0, Value.ref x0), (1, Value.ref x1), (2, Value.int (iI (x2 + 1)))]) rfl ?_
      exact ih x0 x1 (x2 + 1) s15
set_option maxHeartbeats 4000000 in
set_option maxRecDepth 20000 in
theorem mc_Z_copyFrom {l : Launch} {E : pw_E} {σ : pw_Sto} {x0 : Nat} {x1 : Nat} {out : Unit × pw_Sto} (h : mf_Z_copyFrom x0 x1 σ = some out) : pw_CV l E my_Z_copyFrom prog_11_method_2_code 3 none mr_Z_copyFrom [.ref x0, .ref x1] σ out := by
  unfold mf_Z_copyFrom at h
  refine pw_entryV (by decide) (Nat.le_of_ble_eq_true rfl) (pw_gd_val h) (fun X hX hR hI => ?_)
  change pw_Ok X prog_11_method_2_code "PadeWorkbench$State" mr_Z_copyFrom 3 at hX
  show pw_Sp X 0 0 0 [(0, Value.ref x0), (1, Value.ref x1)] [] σ _
  refine sp_aload_n (pc := 0) (k := 0) (i := 0) hX rfl 0 rfl md_Z_copyFrom_0 ?_
  refine sp_aload_n (pc := 1) (k := 1) (i := 1) hX rfl 1 rfl md_Z_copyFrom_1 ?_
  refine sp_getI (pc := 2) (ci := 7) (k := 0) (idx := 9) hX mcl_7 (by decide) mq_100 rfl md_Z_copyFrom_2 (fun v1 => ?_)
  refine sp_putI (pc := 5) (ci := 7) (k := 0) (idx := 9) hX mcl_7 (by decide) mq_100 rfl rfl rfl md_Z_copyFrom_5 (fun s2 => ?_)
  refine sp_iconst (pc := 8) hX md_Z_copyFrom_8 ?_
  refine sp_istore_n (pc := 9) (k := 2) (i := 2) (L' := [(2, Value.int (iI (0 : Int))), (0, Value.ref x0), (1, Value.ref x1)]) hX rfl (by decide) rfl md_Z_copyFrom_9 ?_
  refine sp_sub [1, 2, 0] (L' := [(0, Value.ref x0), (1, Value.ref x1), (2, Value.int (iI (0 : Int)))]) rfl ?_
  exact sl_Z_copyFrom_10 hX hR 1000 x0 x1 (0 : Int) s2
/-! PadeWorkbench$History.keep(LPadeWorkbench$State;)V -/
theorem md_H_keep_0 : decode prog_6_method_2_code 0 = .ok (.aload_n 0, 1) := by decide +kernel
theorem md_H_keep_1 : decode prog_6_method_2_code 1 = .ok (.getfield 11, 3) := by decide +kernel
theorem md_H_keep_4 : decode prog_6_method_2_code 4 = .ok (.aload_n 0, 1) := by decide +kernel
theorem md_H_keep_5 : decode prog_6_method_2_code 5 = .ok (.getfield 18, 3) := by decide +kernel
theorem md_H_keep_8 : decode prog_6_method_2_code 8 = .ok (.iconst 3, 1) := by decide +kernel
theorem md_H_keep_9 : decode prog_6_method_2_code 9 = .ok (.iand, 1) := by decide +kernel
theorem md_H_keep_10 : decode prog_6_method_2_code 10 = .ok (.aaload, 1) := by decide +kernel
theorem md_H_keep_11 : decode prog_6_method_2_code 11 = .ok (.aload_n 1, 1) := by decide +kernel
theorem md_H_keep_12 : decode prog_6_method_2_code 12 = .ok (.invokevirtual 22, 3) := by decide +kernel
theorem md_H_keep_15 : decode prog_6_method_2_code 15 = .ok (.aload_n 0, 1) := by decide +kernel
theorem md_H_keep_16 : decode prog_6_method_2_code 16 = .ok (.aload_n 0, 1) := by decide +kernel
theorem md_H_keep_17 : decode prog_6_method_2_code 17 = .ok (.getfield 18, 3) := by decide +kernel
theorem md_H_keep_20 : decode prog_6_method_2_code 20 = .ok (.iconst 1, 1) := by decide +kernel
theorem md_H_keep_21 : decode prog_6_method_2_code 21 = .ok (.iadd, 1) := by decide +kernel
theorem md_H_keep_22 : decode prog_6_method_2_code 22 = .ok (.iconst 3, 1) := by decide +kernel
theorem md_H_keep_23 : decode prog_6_method_2_code 23 = .ok (.iand, 1) := by decide +kernel
theorem md_H_keep_24 : decode prog_6_method_2_code 24 = .ok (.putfield 18, 3) := by decide +kernel
theorem md_H_keep_27 : decode prog_6_method_2_code 27 = .ok (.aload_n 0, 1) := by decide +kernel
theorem md_H_keep_28 : decode prog_6_method_2_code 28 = .ok (.getfield 26, 3) := by decide +kernel
theorem md_H_keep_31 : decode prog_6_method_2_code 31 = .ok (.iconst 4, 1) := by decide +kernel
theorem md_H_keep_32 : decode prog_6_method_2_code 32 = .ok (.if_icmp .ge 13, 3) := by decide +kernel
theorem md_H_keep_45 : decode prog_6_method_2_code 45 = .ok (.return_, 1) := by decide +kernel
theorem md_H_keep_35 : decode prog_6_method_2_code 35 = .ok (.aload_n 0, 1) := by decide +kernel
theorem md_H_keep_36 : decode prog_6_method_2_code 36 = .ok (.dup, 1) := by decide +kernel
theorem md_H_keep_37 : decode prog_6_method_2_code 37 = .ok (.getfield 26, 3) := by decide +kernel
theorem md_H_keep_40 : decode prog_6_method_2_code 40 = .ok (.iconst 1, 1) := by decide +kernel
theorem md_H_keep_41 : decode prog_6_method_2_code 41 = .ok (.iadd, 1) := by decide +kernel
theorem md_H_keep_42 : decode prog_6_method_2_code 42 = .ok (.putfield 26, 3) := by decide +kernel
def mf_H_keep (x0 : Nat) (x1 : Nat) (σ : pw_Sto) : Option (Unit × pw_Sto) := pw_gd 3 x0 σ ((pw_gr 3 x0 0 σ).bind (fun v1 => (pw_gi 3 x0 1 σ).bind (fun v2 => (pw_ar 12 v1 (v2 % 4) σ).bind (fun v3 => pw_bd (mf_Z_copyFrom v3 x1 σ) (fun _ s4 => (pw_gi 3 x0 1 s4).bind (fun v5 => (pw_pi 3 x0 1 ((v5 + (1 : Int)) % 4) s4).bind (fun s6 => (pw_gi 3 x0 2 s6).bind (fun v7 => pw_ck v7 (4 : Int) (if (4 : Int) ≤ v7 then some ((), s6) else (pw_gi 3 x0 2 s6).bind (fun v8 => (pw_pi 3 x0 2 (v8 + (1 : Int)) s6).bind (fun s9 => some ((), s9))))))))))))
set_option maxHeartbeats 4000000 in
set_option maxRecDepth 20000 in
theorem mc_H_keep {l : Launch} {E : pw_E} {σ : pw_Sto} {x0 : Nat} {x1 : Nat} {out : Unit × pw_Sto} (h : mf_H_keep x0 x1 σ = some out) : pw_CV l E my_H_keep prog_6_method_2_code 2 none mr_H_keep [.ref x0, .ref x1] σ out := by
  unfold mf_H_keep at h
  refine pw_entryV (by decide) (Nat.le_of_ble_eq_true rfl) (pw_gd_val h) (fun X hX hR hI => ?_)
  change pw_Ok X prog_6_method_2_code "PadeWorkbench$History" mr_H_keep 2 at hX
  show pw_Sp X 0 0 0 [(0, Value.ref x0), (1, Value.ref x1)] [] σ _
  refine sp_aload_n (pc := 0) (k := 0) (i := 0) hX rfl 0 rfl md_H_keep_0 ?_
  refine sp_getR (pc := 1) (ci := 3) (k := 0) (idx := 11) hX mcl_3 (by decide) mq_135 rfl md_H_keep_1 (fun v1 => ?_)
  refine sp_aload_n (pc := 4) (k := 0) (i := 0) hX rfl 0 rfl md_H_keep_4 ?_
  refine sp_getI (pc := 5) (ci := 3) (k := 1) (idx := 18) hX mcl_3 (by decide) mq_136 rfl md_H_keep_5 (fun v2 => ?_)
  refine sp_iconst (pc := 8) hX md_H_keep_8 ?_
  refine sp_iand3 (pc := 9) hX md_H_keep_9 ?_
  refine sp_aaS (pc := 10) hX md_H_keep_10 (fun v3 => ?_)
  refine sp_aload_n (pc := 11) (k := 1) (i := 1) hX rfl 1 rfl md_H_keep_11 ?_
  refine sp_callVV (pc := 12) (y := my_Z_copyFrom) (ccy := prog_11_method_2_code) (nLy := 3) (ret := none) (rmy := mr_Z_copyFrom) (n := 1) (idx := 22) (As := [.ref x1]) (st := []) (o := v3) (cells' := 0) (slots' := 0) hX (fun _ h => mc_Z_copyFrom h) mk_Z_copyFrom mv_Z_copyFrom mcl_7 (fun _ h => pw_gd_of h) mq_333 ⟨(Nat.le_of_ble_eq_true rfl), (Nat.le_of_ble_eq_true rfl)⟩ rfl rfl (Nat.le_of_ble_eq_true rfl) ⟨(Nat.le_of_ble_eq_true rfl), (Nat.le_of_ble_eq_true rfl)⟩ rfl rfl md_H_keep_12 (fun s4 => ?_)
  refine sp_aload_n (pc := 15) (k := 0) (i := 0) hX rfl 0 rfl md_H_keep_15 ?_
  refine sp_aload_n (pc := 16) (k := 0) (i := 0) hX rfl 0 rfl md_H_keep_16 ?_
  refine sp_getI (pc := 17) (ci := 3) (k := 1) (idx := 18) hX mcl_3 (by decide) mq_136 rfl md_H_keep_17 (fun v5 => ?_)
  refine sp_iconst (pc := 20) hX md_H_keep_20 ?_
  refine sp_iadd (pc := 21) hX md_H_keep_21 ?_
  refine sp_iconst (pc := 22) hX md_H_keep_22 ?_
  refine sp_iand3 (pc := 23) hX md_H_keep_23 ?_
  refine sp_putI (pc := 24) (ci := 3) (k := 1) (idx := 18) hX mcl_3 (by decide) mq_136 rfl rfl rfl md_H_keep_24 (fun s6 => ?_)
  refine sp_aload_n (pc := 27) (k := 0) (i := 0) hX rfl 0 rfl md_H_keep_27 ?_
  refine sp_getI (pc := 28) (ci := 3) (k := 2) (idx := 26) hX mcl_3 (by decide) mq_137 rfl md_H_keep_28 (fun v7 => ?_)
  refine sp_iconst (pc := 31) hX md_H_keep_31 ?_
  refine sp_icmp_ge (pc := 32) hX 45 (by decide) md_H_keep_32 (fun _ => ?_) (fun _ => ?_)
  · exact sp_vret (pc := 45) hX hR rfl (Nat.le_of_ble_eq_true rfl) md_H_keep_45
  · refine sp_aload_n (pc := 35) (k := 0) (i := 0) hX rfl 0 rfl md_H_keep_35 ?_
    refine sp_dup (pc := 36) hX rfl md_H_keep_36 ?_
    refine sp_getI (pc := 37) (ci := 3) (k := 2) (idx := 26) hX mcl_3 (by decide) mq_137 rfl md_H_keep_37 (fun v8 => ?_)
    refine sp_iconst (pc := 40) hX md_H_keep_40 ?_
    refine sp_iadd (pc := 41) hX md_H_keep_41 ?_
    refine sp_putI (pc := 42) (ci := 3) (k := 2) (idx := 26) hX mcl_3 (by decide) mq_137 rfl rfl rfl md_H_keep_42 (fun s9 => ?_)
    exact sp_vret (pc := 45) hX hR rfl (Nat.le_of_ble_eq_true rfl) md_H_keep_45
/-! PadeWorkbench$State.restart(I)V -/
theorem md_Z_restart_0 : decode prog_11_method_3_code 0 = .ok (.aload_n 0, 1) := by decide +kernel
theorem md_Z_restart_1 : decode prog_11_method_3_code 1 = .ok (.iload_n 1, 1) := by decide +kernel
theorem md_Z_restart_2 : decode prog_11_method_3_code 2 = .ok (.putfield 9, 3) := by decide +kernel
theorem md_Z_restart_5 : decode prog_11_method_3_code 5 = .ok (.iconst 0, 1) := by decide +kernel
theorem md_Z_restart_6 : decode prog_11_method_3_code 6 = .ok (.istore_n 2, 1) := by decide +kernel
theorem md_Z_restart_7 : decode prog_11_method_3_code 7 = .ok (.iload_n 2, 1) := by decide +kernel
theorem md_Z_restart_8 : decode prog_11_method_3_code 8 = .ok (.iconst 4, 1) := by decide +kernel
theorem md_Z_restart_9 : decode prog_11_method_3_code 9 = .ok (.if_icmp .ge 19, 3) := by decide +kernel
theorem md_Z_restart_28 : decode prog_11_method_3_code 28 = .ok (.aload_n 0, 1) := by decide +kernel
theorem md_Z_restart_29 : decode prog_11_method_3_code 29 = .ok (.iconst 0, 1) := by decide +kernel
theorem md_Z_restart_30 : decode prog_11_method_3_code 30 = .ok (.putfield 33, 3) := by decide +kernel
theorem md_Z_restart_33 : decode prog_11_method_3_code 33 = .ok (.return_, 1) := by decide +kernel
theorem md_Z_restart_12 : decode prog_11_method_3_code 12 = .ok (.aload_n 0, 1) := by decide +kernel
theorem md_Z_restart_13 : decode prog_11_method_3_code 13 = .ok (.getfield 17, 3) := by decide +kernel
theorem md_Z_restart_16 : decode prog_11_method_3_code 16 = .ok (.iload_n 2, 1) := by decide +kernel
theorem md_Z_restart_17 : decode prog_11_method_3_code 17 = .ok (.aaload, 1) := by decide +kernel
theorem md_Z_restart_18 : decode prog_11_method_3_code 18 = .ok (.iconst 0, 1) := by decide +kernel
theorem md_Z_restart_19 : decode prog_11_method_3_code 19 = .ok (.invokestatic 36, 3) := by decide +kernel
theorem md_Z_restart_22 : decode prog_11_method_3_code 22 = .ok (.iinc 2 1, 3) := by decide +kernel
theorem md_Z_restart_25 : decode prog_11_method_3_code 25 = .ok (.goto (-18), 3) := by decide +kernel
def mb_Z_restart_7 (rc : Nat → Int → pw_Sto → Option (Unit × pw_Sto)) : Nat → Int → pw_Sto → Option (Unit × pw_Sto) := fun x0 x2 σ => pw_ck x2 (4 : Int) (if (4 : Int) ≤ x2 then (pw_pi 7 x0 2 (0 : Int) σ).bind (fun s2 => some ((), s2)) else (pw_gr 7 x0 1 σ).bind (fun v3 => (pw_ar 13 v3 x2 σ).bind (fun v4 => pw_bd (mf_A_fill v4 (0 : Int) σ) (fun _ s5 => rc x0 (x2 + 1) s5))))
def ml_Z_restart_7 : Nat → Nat → Int → pw_Sto → Option (Unit × pw_Sto) := pw_lp (fun _ _ _ => none) (mb_Z_restart_7)
def mf_Z_restart (x0 : Nat) (x1 : Int) (σ : pw_Sto) : Option (Unit × pw_Sto) := pw_gd 7 x0 σ ((pw_pi 7 x0 0 x1 σ).bind (fun s1 => ml_Z_restart_7 1000 x0 (0 : Int) s1))
set_option maxHeartbeats 4000000 in
set_option maxRecDepth 20000 in
theorem sl_Z_restart_7 {X : pw_X Unit} (hX : pw_Ok X prog_11_method_3_code "PadeWorkbench$State" mr_Z_restart 3) (hR : pw_RV X prog_11_method_3_code) : ∀ (n : Nat) (x0 : Nat) (x2 : Int) (σ : pw_Sto), pw_Sp X 0 0 7 [(0, Value.ref x0), (2, Value.int (iI x2))] [] σ (ml_Z_restart_7 n x0 x2 σ) := by
  intro n
  induction n with
  | zero => intros; exact pw_none
  | succ n ih =>
    intro x0 x2 σ
    show pw_Sp X 0 0 7 _ _ σ (mb_Z_restart_7 (ml_Z_restart_7 n) x0 x2 σ)
    unfold mb_Z_restart_7
    refine sp_iload_n (pc := 7) (k := 2) (i := 2) hX rfl 1 rfl md_Z_restart_7 ?_
    refine sp_iconst (pc := 8) hX md_Z_restart_8 ?_
    refine sp_icmp_ge (pc := 9) hX 28 (by decide) md_Z_restart_9 (fun _ => ?_) (fun _ => ?_)
    · refine sp_aload_n (pc := 28) (k := 0) (i := 0) hX rfl 0 rfl md_Z_restart_28 ?_
      refine sp_iconst (pc := 29) hX md_Z_restart_29 ?_
      refine sp_putI (pc := 30) (ci := 7) (k := 2) (idx := 33) hX mcl_7 (by decide) mq_105 rfl rfl rfl md_Z_restart_30 (fun s2 => ?_)
      exact sp_vret (pc := 33) hX hR rfl (Nat.le_of_ble_eq_true rfl) md_Z_restart_33
    · refine sp_aload_n (pc := 12) (k := 0) (i := 0) hX rfl 0 rfl md_Z_restart_12 ?_
      refine sp_getR (pc := 13) (ci := 7) (k := 1) (idx := 17) hX mcl_7 (by decide) mq_103 rfl md_Z_restart_13 (fun v3 => ?_)
      refine sp_iload_n (pc := 16) (k := 2) (i := 2) hX rfl 1 rfl md_Z_restart_16 ?_
      refine sp_aaG (pc := 17) hX md_Z_restart_17 (fun v4 => ?_)
      refine sp_iconst (pc := 18) hX md_Z_restart_18 ?_
      refine sp_callSV (pc := 19) (y := my_A_fill) (ccy := prog_16_method_103_code) (nLy := 4) (ret := none) (rmy := mr_A_fill) (n := 2) (idx := 36) (As := [.ref v4, .int (iI (0 : Int))]) (st := []) (cells' := 0) (slots' := 0) hX (fun _ h => mc_A_fill h) mk_A_fill mq_345 mq_344 ⟨(Nat.le_of_ble_eq_true rfl), (Nat.le_of_ble_eq_true rfl)⟩ rfl rfl (Nat.le_of_ble_eq_true rfl) ⟨(Nat.le_of_ble_eq_true rfl), (Nat.le_of_ble_eq_true rfl)⟩ rfl rfl md_Z_restart_19 (fun s5 => ?_)
      refine sp_iinc (pc := 22) (i := 2) (L' := [(2, Value.int (iI (x2 + 1))), (0, Value.ref x0)]) hX 1 rfl (by decide) rfl md_Z_restart_22 ?_
      refine sp_goto (pc := 25) hX 7 (by decide) md_Z_restart_25 ?_
      refine sp_sub [1, 0] (L' := [(0, Value.ref x0), (2, Value.int (iI (x2 + 1)))]) rfl ?_
      exact ih x0 (x2 + 1) s5
set_option maxHeartbeats 4000000 in
set_option maxRecDepth 20000 in
theorem mc_Z_restart {l : Launch} {E : pw_E} {σ : pw_Sto} {x0 : Nat} {x1 : Int} {out : Unit × pw_Sto} (h : mf_Z_restart x0 x1 σ = some out) : pw_CV l E my_Z_restart prog_11_method_3_code 3 none mr_Z_restart [.ref x0, .int (iI x1)] σ out := by
  unfold mf_Z_restart at h
  refine pw_entryV (by decide) (Nat.le_of_ble_eq_true rfl) (pw_gd_val h) (fun X hX hR hI => ?_)
  change pw_Ok X prog_11_method_3_code "PadeWorkbench$State" mr_Z_restart 3 at hX
  show pw_Sp X 0 0 0 [(0, Value.ref x0), (1, Value.int (iI x1))] [] σ _
  refine sp_aload_n (pc := 0) (k := 0) (i := 0) hX rfl 0 rfl md_Z_restart_0 ?_
  refine sp_iload_n (pc := 1) (k := 1) (i := 1) hX rfl 1 rfl md_Z_restart_1 ?_
  refine sp_putI (pc := 2) (ci := 7) (k := 0) (idx := 9) hX mcl_7 (by decide) mq_100 rfl rfl rfl md_Z_restart_2 (fun s1 => ?_)
  refine sp_iconst (pc := 5) hX md_Z_restart_5 ?_
  refine sp_istore_n (pc := 6) (k := 2) (i := 2) (L' := [(2, Value.int (iI (0 : Int))), (0, Value.ref x0), (1, Value.int (iI x1))]) hX rfl (by decide) rfl md_Z_restart_6 ?_
  refine sp_sub [1, 0] (L' := [(0, Value.ref x0), (2, Value.int (iI (0 : Int)))]) rfl ?_
  exact sl_Z_restart_7 hX hR 1000 x0 (0 : Int) s1
/-! PadeWorkbench$FractionText.put(I)V -/
theorem md_T_put_0 : decode prog_5_method_2_code 0 = .ok (.aload_n 0, 1) := by decide +kernel
theorem md_T_put_1 : decode prog_5_method_2_code 1 = .ok (.getfield 21, 3) := by decide +kernel
theorem md_T_put_4 : decode prog_5_method_2_code 4 = .ok (.bipush 80, 2) := by decide +kernel
theorem md_T_put_6 : decode prog_5_method_2_code 6 = .ok (.if_icmp .ge 23, 3) := by decide +kernel
theorem md_T_put_29 : decode prog_5_method_2_code 29 = .ok (.return_, 1) := by decide +kernel
theorem md_T_put_9 : decode prog_5_method_2_code 9 = .ok (.aload_n 0, 1) := by decide +kernel
theorem md_T_put_10 : decode prog_5_method_2_code 10 = .ok (.getfield 9, 3) := by decide +kernel
theorem md_T_put_13 : decode prog_5_method_2_code 13 = .ok (.aload_n 0, 1) := by decide +kernel
theorem md_T_put_14 : decode prog_5_method_2_code 14 = .ok (.getfield 21, 3) := by decide +kernel
theorem md_T_put_17 : decode prog_5_method_2_code 17 = .ok (.iload_n 1, 1) := by decide +kernel
theorem md_T_put_18 : decode prog_5_method_2_code 18 = .ok (.iastore, 1) := by decide +kernel
theorem md_T_put_19 : decode prog_5_method_2_code 19 = .ok (.aload_n 0, 1) := by decide +kernel
theorem md_T_put_20 : decode prog_5_method_2_code 20 = .ok (.dup, 1) := by decide +kernel
theorem md_T_put_21 : decode prog_5_method_2_code 21 = .ok (.getfield 21, 3) := by decide +kernel
theorem md_T_put_24 : decode prog_5_method_2_code 24 = .ok (.iconst 1, 1) := by decide +kernel
theorem md_T_put_25 : decode prog_5_method_2_code 25 = .ok (.iadd, 1) := by decide +kernel
theorem md_T_put_26 : decode prog_5_method_2_code 26 = .ok (.putfield 21, 3) := by decide +kernel
def mf_T_put (x0 : Nat) (x1 : Int) (σ : pw_Sto) : Option (Unit × pw_Sto) := pw_gd 2 x0 σ ((pw_gi 2 x0 1 σ).bind (fun v1 => pw_ck v1 (80 : Int) (if (80 : Int) ≤ v1 then some ((), σ) else (pw_gr 2 x0 0 σ).bind (fun v2 => (pw_gi 2 x0 1 σ).bind (fun v3 => (pw_si v2 v3 x1 σ).bind (fun s4 => (pw_gi 2 x0 1 s4).bind (fun v5 => (pw_pi 2 x0 1 (v5 + (1 : Int)) s4).bind (fun s6 => some ((), s6)))))))))
set_option maxHeartbeats 4000000 in
set_option maxRecDepth 20000 in
theorem mc_T_put {l : Launch} {E : pw_E} {σ : pw_Sto} {x0 : Nat} {x1 : Int} {out : Unit × pw_Sto} (h : mf_T_put x0 x1 σ = some out) : pw_CV l E my_T_put prog_5_method_2_code 2 none mr_T_put [.ref x0, .int (iI x1)] σ out := by
  unfold mf_T_put at h
  refine pw_entryV (by decide) (Nat.le_of_ble_eq_true rfl) (pw_gd_val h) (fun X hX hR hI => ?_)
  change pw_Ok X prog_5_method_2_code "PadeWorkbench$FractionText" mr_T_put 2 at hX
  show pw_Sp X 0 0 0 [(0, Value.ref x0), (1, Value.int (iI x1))] [] σ _
  refine sp_aload_n (pc := 0) (k := 0) (i := 0) hX rfl 0 rfl md_T_put_0 ?_
  refine sp_getI (pc := 1) (ci := 2) (k := 1) (idx := 21) hX mcl_2 (by decide) mq_153 rfl md_T_put_1 (fun v1 => ?_)
  refine sp_bipush (pc := 4) hX (by decide) md_T_put_4 ?_
  refine sp_icmp_ge (pc := 6) hX 29 (by decide) md_T_put_6 (fun _ => ?_) (fun _ => ?_)
  · exact sp_vret (pc := 29) hX hR rfl (Nat.le_of_ble_eq_true rfl) md_T_put_29
  · refine sp_aload_n (pc := 9) (k := 0) (i := 0) hX rfl 0 rfl md_T_put_9 ?_
    refine sp_getR (pc := 10) (ci := 2) (k := 0) (idx := 9) hX mcl_2 (by decide) mq_152 rfl md_T_put_10 (fun v2 => ?_)
    refine sp_aload_n (pc := 13) (k := 0) (i := 0) hX rfl 0 rfl md_T_put_13 ?_
    refine sp_getI (pc := 14) (ci := 2) (k := 1) (idx := 21) hX mcl_2 (by decide) mq_153 rfl md_T_put_14 (fun v3 => ?_)
    refine sp_iload_n (pc := 17) (k := 1) (i := 1) hX rfl 1 rfl md_T_put_17 ?_
    refine sp_iastore (pc := 18) hX md_T_put_18 (fun s4 => ?_)
    refine sp_aload_n (pc := 19) (k := 0) (i := 0) hX rfl 0 rfl md_T_put_19 ?_
    refine sp_dup (pc := 20) hX rfl md_T_put_20 ?_
    refine sp_getI (pc := 21) (ci := 2) (k := 1) (idx := 21) hX mcl_2 (by decide) mq_153 rfl md_T_put_21 (fun v5 => ?_)
    refine sp_iconst (pc := 24) hX md_T_put_24 ?_
    refine sp_iadd (pc := 25) hX md_T_put_25 ?_
    refine sp_putI (pc := 26) (ci := 2) (k := 1) (idx := 21) hX mcl_2 (by decide) mq_153 rfl rfl rfl md_T_put_26 (fun s6 => ?_)
    exact sp_vret (pc := 29) hX hR rfl (Nat.le_of_ble_eq_true rfl) md_T_put_29
/-! PadeWorkbench$FractionText.here()I -/
theorem md_T_here_0 : decode prog_5_method_10_code 0 = .ok (.aload_n 0, 1) := by decide +kernel
theorem md_T_here_1 : decode prog_5_method_10_code 1 = .ok (.getfield 28, 3) := by decide +kernel
theorem md_T_here_4 : decode prog_5_method_10_code 4 = .ok (.ifCond .lt 35, 3) := by decide +kernel
theorem md_T_here_39 : decode prog_5_method_10_code 39 = .ok (.iconst (-1), 1) := by decide +kernel
theorem md_T_here_40 : decode prog_5_method_10_code 40 = .ok (.ireturn, 1) := by decide +kernel
theorem md_T_here_7 : decode prog_5_method_10_code 7 = .ok (.aload_n 0, 1) := by decide +kernel
theorem md_T_here_8 : decode prog_5_method_10_code 8 = .ok (.getfield 28, 3) := by decide +kernel
theorem md_T_here_11 : decode prog_5_method_10_code 11 = .ok (.aload_n 0, 1) := by decide +kernel
theorem md_T_here_12 : decode prog_5_method_10_code 12 = .ok (.getfield 21, 3) := by decide +kernel
theorem md_T_here_15 : decode prog_5_method_10_code 15 = .ok (.if_icmp .ge 24, 3) := by decide +kernel
theorem md_T_here_18 : decode prog_5_method_10_code 18 = .ok (.aload_n 0, 1) := by decide +kernel
theorem md_T_here_19 : decode prog_5_method_10_code 19 = .ok (.getfield 28, 3) := by decide +kernel
theorem md_T_here_22 : decode prog_5_method_10_code 22 = .ok (.bipush 80, 2) := by decide +kernel
theorem md_T_here_24 : decode prog_5_method_10_code 24 = .ok (.if_icmp .ge 15, 3) := by decide +kernel
theorem md_T_here_27 : decode prog_5_method_10_code 27 = .ok (.aload_n 0, 1) := by decide +kernel
theorem md_T_here_28 : decode prog_5_method_10_code 28 = .ok (.getfield 9, 3) := by decide +kernel
theorem md_T_here_31 : decode prog_5_method_10_code 31 = .ok (.aload_n 0, 1) := by decide +kernel
theorem md_T_here_32 : decode prog_5_method_10_code 32 = .ok (.getfield 28, 3) := by decide +kernel
theorem md_T_here_35 : decode prog_5_method_10_code 35 = .ok (.iaload, 1) := by decide +kernel
theorem md_T_here_36 : decode prog_5_method_10_code 36 = .ok (.goto 4, 3) := by decide +kernel
def mf_T_here (x0 : Nat) (σ : pw_Sto) : Option (Int × pw_Sto) := pw_gd 2 x0 σ ((pw_gi 2 x0 2 σ).bind (fun v1 => pw_ck v1 0 (if v1 < 0 then some ((-1 : Int), σ) else (pw_gi 2 x0 2 σ).bind (fun v2 => (pw_gi 2 x0 1 σ).bind (fun v3 => pw_ck v2 v3 (if v3 ≤ v2 then some ((-1 : Int), σ) else (pw_gi 2 x0 2 σ).bind (fun v4 => pw_ck v4 (80 : Int) (if (80 : Int) ≤ v4 then some ((-1 : Int), σ) else (pw_gr 2 x0 0 σ).bind (fun v5 => (pw_gi 2 x0 2 σ).bind (fun v6 => (pw_ai v5 v6 σ).bind (fun v7 => some (v7, σ))))))))))))
set_option maxHeartbeats 4000000 in
set_option maxRecDepth 20000 in
theorem mc_T_here {l : Launch} {E : pw_E} {σ : pw_Sto} {x0 : Nat} {out : Int × pw_Sto} (h : mf_T_here x0 σ = some out) : pw_CI l E my_T_here prog_5_method_10_code 1 (some .int) mr_T_here [.ref x0] σ out := by
  unfold mf_T_here at h
  refine pw_entryI (by decide) (Nat.le_of_ble_eq_true rfl) (pw_gd_val h) (fun X hX hR hI => ?_)
  change pw_Ok X prog_5_method_10_code "PadeWorkbench$FractionText" mr_T_here 1 at hX
  show pw_Sp X 0 0 0 [(0, Value.ref x0)] [] σ _
  refine sp_aload_n (pc := 0) (k := 0) (i := 0) hX rfl 0 rfl md_T_here_0 ?_
  refine sp_getI (pc := 1) (ci := 2) (k := 2) (idx := 28) hX mcl_2 (by decide) mq_155 rfl md_T_here_1 (fun v1 => ?_)
  refine sp_if_lt (pc := 4) hX 39 (by decide) md_T_here_4 (fun _ => ?_) (fun _ => ?_)
  · refine sp_iconst (pc := 39) hX md_T_here_39 ?_
    exact sp_iret (pc := 40) hX hR rfl (Nat.le_of_ble_eq_true rfl) md_T_here_40
  · refine sp_aload_n (pc := 7) (k := 0) (i := 0) hX rfl 0 rfl md_T_here_7 ?_
    refine sp_getI (pc := 8) (ci := 2) (k := 2) (idx := 28) hX mcl_2 (by decide) mq_155 rfl md_T_here_8 (fun v2 => ?_)
    refine sp_aload_n (pc := 11) (k := 0) (i := 0) hX rfl 0 rfl md_T_here_11 ?_
    refine sp_getI (pc := 12) (ci := 2) (k := 1) (idx := 21) hX mcl_2 (by decide) mq_153 rfl md_T_here_12 (fun v3 => ?_)
    refine sp_icmp_ge (pc := 15) hX 39 (by decide) md_T_here_15 (fun _ => ?_) (fun _ => ?_)
    · refine sp_iconst (pc := 39) hX md_T_here_39 ?_
      exact sp_iret (pc := 40) hX hR rfl (Nat.le_of_ble_eq_true rfl) md_T_here_40
    · refine sp_aload_n (pc := 18) (k := 0) (i := 0) hX rfl 0 rfl md_T_here_18 ?_
      refine sp_getI (pc := 19) (ci := 2) (k := 2) (idx := 28) hX mcl_2 (by decide) mq_155 rfl md_T_here_19 (fun v4 => ?_)
      refine sp_bipush (pc := 22) hX (by decide) md_T_here_22 ?_
      refine sp_icmp_ge (pc := 24) hX 39 (by decide) md_T_here_24 (fun _ => ?_) (fun _ => ?_)
      · refine sp_iconst (pc := 39) hX md_T_here_39 ?_
        exact sp_iret (pc := 40) hX hR rfl (Nat.le_of_ble_eq_true rfl) md_T_here_40
      · refine sp_aload_n (pc := 27) (k := 0) (i := 0) hX rfl 0 rfl md_T_here_27 ?_
        refine sp_getR (pc := 28) (ci := 2) (k := 0) (idx := 9) hX mcl_2 (by decide) mq_152 rfl md_T_here_28 (fun v5 => ?_)
        refine sp_aload_n (pc := 31) (k := 0) (i := 0) hX rfl 0 rfl md_T_here_31 ?_
        refine sp_getI (pc := 32) (ci := 2) (k := 2) (idx := 28) hX mcl_2 (by decide) mq_155 rfl md_T_here_32 (fun v6 => ?_)
        refine sp_iaload (pc := 35) hX md_T_here_35 (fun v7 => ?_)
        refine sp_goto (pc := 36) hX 40 (by decide) md_T_here_36 ?_
        exact sp_iret (pc := 40) hX hR rfl (Nat.le_of_ble_eq_true rfl) md_T_here_40
/-! PadeWorkbench$FractionText.peek()I -/
theorem md_T_peek_0 : decode prog_5_method_9_code 0 = .ok (.aload_n 0, 1) := by decide +kernel
theorem md_T_peek_1 : decode prog_5_method_9_code 1 = .ok (.getfield 28, 3) := by decide +kernel
theorem md_T_peek_4 : decode prog_5_method_9_code 4 = .ok (.aload_n 0, 1) := by decide +kernel
theorem md_T_peek_5 : decode prog_5_method_9_code 5 = .ok (.getfield 21, 3) := by decide +kernel
theorem md_T_peek_8 : decode prog_5_method_9_code 8 = .ok (.if_icmp .ge 25, 3) := by decide +kernel
theorem md_T_peek_33 : decode prog_5_method_9_code 33 = .ok (.aload_n 0, 1) := by decide +kernel
theorem md_T_peek_34 : decode prog_5_method_9_code 34 = .ok (.invokevirtual 68, 3) := by decide +kernel
theorem md_T_peek_37 : decode prog_5_method_9_code 37 = .ok (.ireturn, 1) := by decide +kernel
theorem md_T_peek_11 : decode prog_5_method_9_code 11 = .ok (.aload_n 0, 1) := by decide +kernel
theorem md_T_peek_12 : decode prog_5_method_9_code 12 = .ok (.invokevirtual 68, 3) := by decide +kernel
theorem md_T_peek_15 : decode prog_5_method_9_code 15 = .ok (.bipush 32, 2) := by decide +kernel
theorem md_T_peek_17 : decode prog_5_method_9_code 17 = .ok (.if_icmp .ne 16, 3) := by decide +kernel
theorem md_T_peek_20 : decode prog_5_method_9_code 20 = .ok (.aload_n 0, 1) := by decide +kernel
theorem md_T_peek_21 : decode prog_5_method_9_code 21 = .ok (.dup, 1) := by decide +kernel
theorem md_T_peek_22 : decode prog_5_method_9_code 22 = .ok (.getfield 28, 3) := by decide +kernel
theorem md_T_peek_25 : decode prog_5_method_9_code 25 = .ok (.iconst 1, 1) := by decide +kernel
theorem md_T_peek_26 : decode prog_5_method_9_code 26 = .ok (.iadd, 1) := by decide +kernel
theorem md_T_peek_27 : decode prog_5_method_9_code 27 = .ok (.putfield 28, 3) := by decide +kernel
theorem md_T_peek_30 : decode prog_5_method_9_code 30 = .ok (.goto (-30), 3) := by decide +kernel
def mj_T_peek_33 (x0 : Nat) (σ : pw_Sto) : Option (Int × pw_Sto) := pw_bd (mf_T_here x0 σ) (fun v4 s3 => some (v4, s3))
def mb_T_peek_0 (rc : Nat → pw_Sto → Option (Int × pw_Sto)) : Nat → pw_Sto → Option (Int × pw_Sto) := fun x0 σ => (pw_gi 2 x0 2 σ).bind (fun v1 => (pw_gi 2 x0 1 σ).bind (fun v2 => pw_ck v1 v2 (if v2 ≤ v1 then mj_T_peek_33 x0 σ else pw_bd (mf_T_here x0 σ) (fun v6 s5 => pw_ck v6 (32 : Int) (if v6 = (32 : Int) then (pw_gi 2 x0 2 s5).bind (fun v7 => (pw_pi 2 x0 2 (v7 + (1 : Int)) s5).bind (fun s8 => rc x0 s8)) else mj_T_peek_33 x0 s5)))))
def ml_T_peek_0 : Nat → Nat → pw_Sto → Option (Int × pw_Sto) := pw_lp (fun _ _ => none) (mb_T_peek_0)
def mf_T_peek (x0 : Nat) (σ : pw_Sto) : Option (Int × pw_Sto) := pw_gd 2 x0 σ (ml_T_peek_0 1000 x0 σ)
set_option maxHeartbeats 4000000 in
set_option maxRecDepth 20000 in
theorem sj_T_peek_33 {X : pw_X Int} (hX : pw_Ok X prog_5_method_9_code "PadeWorkbench$FractionText" mr_T_peek 1) (hR : pw_RI X prog_5_method_9_code) (x0 : Nat) (σ : pw_Sto) : pw_Sp X 0 0 33 [(0, Value.ref x0)] [] σ (mj_T_peek_33 x0 σ) := by
  unfold mj_T_peek_33
  refine sp_aload_n (pc := 33) (k := 0) (i := 0) hX rfl 0 rfl md_T_peek_33 ?_
  refine sp_callVI (pc := 34) (y := my_T_here) (ccy := prog_5_method_10_code) (nLy := 1) (ret := (some .int)) (rmy := mr_T_here) (n := 0) (idx := 68) (As := []) (st := []) (o := x0) (cells' := 0) (slots' := 0) hX (fun _ h => mc_T_here h) mk_T_here mv_T_here mcl_2 (fun _ h => pw_gd_of h) mq_457 ⟨(Nat.le_of_ble_eq_true rfl), (Nat.le_of_ble_eq_true rfl)⟩ rfl rfl (Nat.le_of_ble_eq_true rfl) ⟨(Nat.le_of_ble_eq_true rfl), (Nat.le_of_ble_eq_true rfl)⟩ rfl rfl md_T_peek_34 (fun v4 s3 => ?_)
  exact sp_iret (pc := 37) hX hR rfl (Nat.le_of_ble_eq_true rfl) md_T_peek_37
set_option maxHeartbeats 4000000 in
set_option maxRecDepth 20000 in
theorem sl_T_peek_0 {X : pw_X Int} (hX : pw_Ok X prog_5_method_9_code "PadeWorkbench$FractionText" mr_T_peek 1) (hR : pw_RI X prog_5_method_9_code) : ∀ (n : Nat) (x0 : Nat) (σ : pw_Sto), pw_Sp X 0 0 0 [(0, Value.ref x0)] [] σ (ml_T_peek_0 n x0 σ) := by
  intro n
  induction n with
  | zero => intros; exact pw_none
  | succ n ih =>
    intro x0 σ
    show pw_Sp X 0 0 0 _ _ σ (mb_T_peek_0 (ml_T_peek_0 n) x0 σ)
    unfold mb_T_peek_0
    refine sp_aload_n (pc := 0) (k := 0) (i := 0) hX rfl 0 rfl md_T_peek_0 ?_
    refine sp_getI (pc := 1) (ci := 2) (k := 2) (idx := 28) hX mcl_2 (by decide) mq_155 rfl md_T_peek_1 (fun v1 => ?_)
    refine sp_aload_n (pc := 4) (k := 0) (i := 0) hX rfl 0 rfl md_T_peek_4 ?_
    refine sp_getI (pc := 5) (ci := 2) (k := 1) (idx := 21) hX mcl_2 (by decide) mq_153 rfl md_T_peek_5 (fun v2 => ?_)
    refine sp_icmp_ge (pc := 8) hX 33 (by decide) md_T_peek_8 (fun _ => ?_) (fun _ => ?_)
    · exact sj_T_peek_33 hX hR x0 σ
    · refine sp_aload_n (pc := 11) (k := 0) (i := 0) hX rfl 0 rfl md_T_peek_11 ?_
      refine sp_callVI (pc := 12) (y := my_T_here) (ccy := prog_5_method_10_code) (nLy := 1) (ret := (some .int)) (rmy := mr_T_here) (n := 0) (idx := 68) (As := []) (st := []) (o := x0) (cells' := 0) (slots' := 0) hX (fun _ h => mc_T_here h) mk_T_here mv_T_here mcl_2 (fun _ h => pw_gd_of h) mq_457 ⟨(Nat.le_of_ble_eq_true rfl), (Nat.le_of_ble_eq_true rfl)⟩ rfl rfl (Nat.le_of_ble_eq_true rfl) ⟨(Nat.le_of_ble_eq_true rfl), (Nat.le_of_ble_eq_true rfl)⟩ rfl rfl md_T_peek_12 (fun v6 s5 => ?_)
      refine sp_bipush (pc := 15) hX (by decide) md_T_peek_15 ?_
      refine sp_icmp_ne (pc := 17) hX 33 (by decide) md_T_peek_17 (fun _ => ?_) (fun _ => ?_)
      · refine sp_aload_n (pc := 20) (k := 0) (i := 0) hX rfl 0 rfl md_T_peek_20 ?_
        refine sp_dup (pc := 21) hX rfl md_T_peek_21 ?_
        refine sp_getI (pc := 22) (ci := 2) (k := 2) (idx := 28) hX mcl_2 (by decide) mq_155 rfl md_T_peek_22 (fun v7 => ?_)
        refine sp_iconst (pc := 25) hX md_T_peek_25 ?_
        refine sp_iadd (pc := 26) hX md_T_peek_26 ?_
        refine sp_putI (pc := 27) (ci := 2) (k := 2) (idx := 28) hX mcl_2 (by decide) mq_155 rfl rfl rfl md_T_peek_27 (fun s8 => ?_)
        refine sp_goto (pc := 30) hX 0 (by decide) md_T_peek_30 ?_
        exact ih x0 s8
      · exact sj_T_peek_33 hX hR x0 s5
set_option maxHeartbeats 4000000 in
set_option maxRecDepth 20000 in
theorem mc_T_peek {l : Launch} {E : pw_E} {σ : pw_Sto} {x0 : Nat} {out : Int × pw_Sto} (h : mf_T_peek x0 σ = some out) : pw_CI l E my_T_peek prog_5_method_9_code 1 (some .int) mr_T_peek [.ref x0] σ out := by
  unfold mf_T_peek at h
  refine pw_entryI (by decide) (Nat.le_of_ble_eq_true rfl) (pw_gd_val h) (fun X hX hR hI => ?_)
  change pw_Ok X prog_5_method_9_code "PadeWorkbench$FractionText" mr_T_peek 1 at hX
  show pw_Sp X 0 0 0 [(0, Value.ref x0)] [] σ _
  exact sl_T_peek_0 hX hR 1000 x0 σ
/-! PadeWorkbench$FractionText.took(I)Z -/
theorem md_T_took_0 : decode prog_5_method_8_code 0 = .ok (.aload_n 0, 1) := by decide +kernel
theorem md_T_took_1 : decode prog_5_method_8_code 1 = .ok (.invokevirtual 45, 3) := by decide +kernel
theorem md_T_took_4 : decode prog_5_method_8_code 4 = .ok (.iload_n 1, 1) := by decide +kernel
theorem md_T_took_5 : decode prog_5_method_8_code 5 = .ok (.if_icmp .eq 5, 3) := by decide +kernel
theorem md_T_took_10 : decode prog_5_method_8_code 10 = .ok (.aload_n 0, 1) := by decide +kernel
theorem md_T_took_11 : decode prog_5_method_8_code 11 = .ok (.dup, 1) := by decide +kernel
theorem md_T_took_12 : decode prog_5_method_8_code 12 = .ok (.getfield 28, 3) := by decide +kernel
theorem md_T_took_15 : decode prog_5_method_8_code 15 = .ok (.iconst 1, 1) := by decide +kernel
theorem md_T_took_16 : decode prog_5_method_8_code 16 = .ok (.iadd, 1) := by decide +kernel
theorem md_T_took_17 : decode prog_5_method_8_code 17 = .ok (.putfield 28, 3) := by decide +kernel
theorem md_T_took_20 : decode prog_5_method_8_code 20 = .ok (.iconst 1, 1) := by decide +kernel
theorem md_T_took_21 : decode prog_5_method_8_code 21 = .ok (.ireturn, 1) := by decide +kernel
theorem md_T_took_8 : decode prog_5_method_8_code 8 = .ok (.iconst 0, 1) := by decide +kernel
theorem md_T_took_9 : decode prog_5_method_8_code 9 = .ok (.ireturn, 1) := by decide +kernel
def mf_T_took (x0 : Nat) (x1 : Int) (σ : pw_Sto) : Option (Int × pw_Sto) := pw_gd 2 x0 σ (pw_bd (mf_T_peek x0 σ) (fun v2 s1 => pw_ck v2 x1 (if v2 = x1 then (pw_gi 2 x0 2 s1).bind (fun v3 => (pw_pi 2 x0 2 (v3 + (1 : Int)) s1).bind (fun s4 => some ((1 : Int), s4))) else some ((0 : Int), s1))))
set_option maxHeartbeats 4000000 in
set_option maxRecDepth 20000 in
theorem mc_T_took {l : Launch} {E : pw_E} {σ : pw_Sto} {x0 : Nat} {x1 : Int} {out : Int × pw_Sto} (h : mf_T_took x0 x1 σ = some out) : pw_CI l E my_T_took prog_5_method_8_code 2 (some .boolean) mr_T_took [.ref x0, .int (iI x1)] σ out := by
  unfold mf_T_took at h
  refine pw_entryZ (by decide) (Nat.le_of_ble_eq_true rfl) (pw_gd_val h) (fun X hX hR hI => ?_)
  change pw_Ok X prog_5_method_8_code "PadeWorkbench$FractionText" mr_T_took 2 at hX
  show pw_Sp X 0 0 0 [(0, Value.ref x0), (1, Value.int (iI x1))] [] σ _
  refine sp_aload_n (pc := 0) (k := 0) (i := 0) hX rfl 0 rfl md_T_took_0 ?_
  refine sp_callVI (pc := 1) (y := my_T_peek) (ccy := prog_5_method_9_code) (nLy := 1) (ret := (some .int)) (rmy := mr_T_peek) (n := 0) (idx := 45) (As := []) (st := []) (o := x0) (cells' := 0) (slots' := 0) hX (fun _ h => mc_T_peek h) mk_T_peek mv_T_peek mcl_2 (fun _ h => pw_gd_of h) mq_453 ⟨(Nat.le_of_ble_eq_true rfl), (Nat.le_of_ble_eq_true rfl)⟩ rfl rfl (Nat.le_of_ble_eq_true rfl) ⟨(Nat.le_of_ble_eq_true rfl), (Nat.le_of_ble_eq_true rfl)⟩ rfl rfl md_T_took_1 (fun v2 s1 => ?_)
  refine sp_iload_n (pc := 4) (k := 1) (i := 1) hX rfl 1 rfl md_T_took_4 ?_
  refine sp_icmp_eq (pc := 5) hX 10 (by decide) md_T_took_5 (fun _ => ?_) (fun _ => ?_)
  · refine sp_aload_n (pc := 10) (k := 0) (i := 0) hX rfl 0 rfl md_T_took_10 ?_
    refine sp_dup (pc := 11) hX rfl md_T_took_11 ?_
    refine sp_getI (pc := 12) (ci := 2) (k := 2) (idx := 28) hX mcl_2 (by decide) mq_155 rfl md_T_took_12 (fun v3 => ?_)
    refine sp_iconst (pc := 15) hX md_T_took_15 ?_
    refine sp_iadd (pc := 16) hX md_T_took_16 ?_
    refine sp_putI (pc := 17) (ci := 2) (k := 2) (idx := 28) hX mcl_2 (by decide) mq_155 rfl rfl rfl md_T_took_17 (fun s4 => ?_)
    refine sp_iconst (pc := 20) hX md_T_took_20 ?_
    exact sp_zret (pc := 21) hX hR (by decide) rfl (Nat.le_of_ble_eq_true rfl) md_T_took_21
  · refine sp_iconst (pc := 8) hX md_T_took_8 ?_
    exact sp_zret (pc := 9) hX hR (by decide) rfl (Nat.le_of_ble_eq_true rfl) md_T_took_9
/-! PadeWorkbench$FractionText.isDigit(I)Z -/
theorem md_T_isDigit_0 : decode prog_5_method_11_code 0 = .ok (.iload_n 0, 1) := by decide +kernel
theorem md_T_isDigit_1 : decode prog_5_method_11_code 1 = .ok (.bipush 48, 2) := by decide +kernel
theorem md_T_isDigit_3 : decode prog_5_method_11_code 3 = .ok (.if_icmp .lt 13, 3) := by decide +kernel
theorem md_T_isDigit_16 : decode prog_5_method_11_code 16 = .ok (.iconst 0, 1) := by decide +kernel
theorem md_T_isDigit_17 : decode prog_5_method_11_code 17 = .ok (.ireturn, 1) := by decide +kernel
theorem md_T_isDigit_6 : decode prog_5_method_11_code 6 = .ok (.iload_n 0, 1) := by decide +kernel
theorem md_T_isDigit_7 : decode prog_5_method_11_code 7 = .ok (.bipush 57, 2) := by decide +kernel
theorem md_T_isDigit_9 : decode prog_5_method_11_code 9 = .ok (.if_icmp .gt 7, 3) := by decide +kernel
theorem md_T_isDigit_12 : decode prog_5_method_11_code 12 = .ok (.iconst 1, 1) := by decide +kernel
theorem md_T_isDigit_13 : decode prog_5_method_11_code 13 = .ok (.goto 4, 3) := by decide +kernel
def mf_T_isDigit (x0 : Int) (σ : pw_Sto) : Option (Int × pw_Sto) := pw_ck x0 (48 : Int) (if x0 < (48 : Int) then some ((0 : Int), σ) else pw_ck x0 (57 : Int) (if (57 : Int) < x0 then some ((0 : Int), σ) else some ((1 : Int), σ)))
set_option maxHeartbeats 4000000 in
set_option maxRecDepth 20000 in
theorem mc_T_isDigit {l : Launch} {E : pw_E} {σ : pw_Sto} {x0 : Int} {out : Int × pw_Sto} (h : mf_T_isDigit x0 σ = some out) : pw_CI l E my_T_isDigit prog_5_method_11_code 1 (some .boolean) mr_T_isDigit [.int (iI x0)] σ out := by
  unfold mf_T_isDigit at h
  refine pw_entryZ (by decide) (Nat.le_of_ble_eq_true rfl) h (fun X hX hR hI => ?_)
  change pw_Ok X prog_5_method_11_code "PadeWorkbench$FractionText" mr_T_isDigit 1 at hX
  show pw_Sp X 0 0 0 [(0, Value.int (iI x0))] [] σ _
  refine sp_iload_n (pc := 0) (k := 0) (i := 0) hX rfl 0 rfl md_T_isDigit_0 ?_
  refine sp_bipush (pc := 1) hX (by decide) md_T_isDigit_1 ?_
  refine sp_icmp_lt (pc := 3) hX 16 (by decide) md_T_isDigit_3 (fun _ => ?_) (fun _ => ?_)
  · refine sp_iconst (pc := 16) hX md_T_isDigit_16 ?_
    exact sp_zret (pc := 17) hX hR (by decide) rfl (Nat.le_of_ble_eq_true rfl) md_T_isDigit_17
  · refine sp_iload_n (pc := 6) (k := 0) (i := 0) hX rfl 0 rfl md_T_isDigit_6 ?_
    refine sp_bipush (pc := 7) hX (by decide) md_T_isDigit_7 ?_
    refine sp_icmp_gt (pc := 9) hX 16 (by decide) md_T_isDigit_9 (fun _ => ?_) (fun _ => ?_)
    · refine sp_iconst (pc := 16) hX md_T_isDigit_16 ?_
      exact sp_zret (pc := 17) hX hR (by decide) rfl (Nat.le_of_ble_eq_true rfl) md_T_isDigit_17
    · refine sp_iconst (pc := 12) hX md_T_isDigit_12 ?_
      refine sp_goto (pc := 13) hX 17 (by decide) md_T_isDigit_13 ?_
      exact sp_zret (pc := 17) hX hR (by decide) rfl (Nat.le_of_ble_eq_true rfl) md_T_isDigit_17
/-! PadeWorkbench$FractionText.readNumber()I -/
theorem md_T_readNumber_0 : decode prog_5_method_6_code 0 = .ok (.iconst 0, 1) := by decide +kernel
theorem md_T_readNumber_1 : decode prog_5_method_6_code 1 = .ok (.istore_n 1, 1) := by decide +kernel
theorem md_T_readNumber_2 : decode prog_5_method_6_code 2 = .ok (.iconst 0, 1) := by decide +kernel
theorem md_T_readNumber_3 : decode prog_5_method_6_code 3 = .ok (.istore_n 2, 1) := by decide +kernel
theorem md_T_readNumber_4 : decode prog_5_method_6_code 4 = .ok (.iload_n 2, 1) := by decide +kernel
theorem md_T_readNumber_5 : decode prog_5_method_6_code 5 = .ok (.iconst 4, 1) := by decide +kernel
theorem md_T_readNumber_6 : decode prog_5_method_6_code 6 = .ok (.if_icmp .ge 42, 3) := by decide +kernel
theorem md_T_readNumber_48 : decode prog_5_method_6_code 48 = .ok (.aload_n 0, 1) := by decide +kernel
theorem md_T_readNumber_49 : decode prog_5_method_6_code 49 = .ok (.invokevirtual 68, 3) := by decide +kernel
theorem md_T_readNumber_52 : decode prog_5_method_6_code 52 = .ok (.invokestatic 53, 3) := by decide +kernel
theorem md_T_readNumber_55 : decode prog_5_method_6_code 55 = .ok (.ifCond .eq 7, 3) := by decide +kernel
theorem md_T_readNumber_62 : decode prog_5_method_6_code 62 = .ok (.iload_n 1, 1) := by decide +kernel
theorem md_T_readNumber_63 : decode prog_5_method_6_code 63 = .ok (.ireturn, 1) := by decide +kernel
theorem md_T_readNumber_58 : decode prog_5_method_6_code 58 = .ok (.iconst (-1), 1) := by decide +kernel
theorem md_T_readNumber_59 : decode prog_5_method_6_code 59 = .ok (.goto 4, 3) := by decide +kernel
theorem md_T_readNumber_9 : decode prog_5_method_6_code 9 = .ok (.aload_n 0, 1) := by decide +kernel
theorem md_T_readNumber_10 : decode prog_5_method_6_code 10 = .ok (.invokevirtual 68, 3) := by decide +kernel
theorem md_T_readNumber_13 : decode prog_5_method_6_code 13 = .ok (.invokestatic 53, 3) := by decide +kernel
theorem md_T_readNumber_16 : decode prog_5_method_6_code 16 = .ok (.ifCond .eq 32, 3) := by decide +kernel
theorem md_T_readNumber_19 : decode prog_5_method_6_code 19 = .ok (.bipush 10, 2) := by decide +kernel
theorem md_T_readNumber_21 : decode prog_5_method_6_code 21 = .ok (.iload_n 1, 1) := by decide +kernel
theorem md_T_readNumber_22 : decode prog_5_method_6_code 22 = .ok (.imul, 1) := by decide +kernel
theorem md_T_readNumber_23 : decode prog_5_method_6_code 23 = .ok (.aload_n 0, 1) := by decide +kernel
theorem md_T_readNumber_24 : decode prog_5_method_6_code 24 = .ok (.invokevirtual 68, 3) := by decide +kernel
theorem md_T_readNumber_27 : decode prog_5_method_6_code 27 = .ok (.iadd, 1) := by decide +kernel
theorem md_T_readNumber_28 : decode prog_5_method_6_code 28 = .ok (.bipush 48, 2) := by decide +kernel
theorem md_T_readNumber_30 : decode prog_5_method_6_code 30 = .ok (.isub, 1) := by decide +kernel
theorem md_T_readNumber_31 : decode prog_5_method_6_code 31 = .ok (.istore_n 1, 1) := by decide +kernel
theorem md_T_readNumber_32 : decode prog_5_method_6_code 32 = .ok (.aload_n 0, 1) := by decide +kernel
theorem md_T_readNumber_33 : decode prog_5_method_6_code 33 = .ok (.dup, 1) := by decide +kernel
theorem md_T_readNumber_34 : decode prog_5_method_6_code 34 = .ok (.getfield 28, 3) := by decide +kernel
theorem md_T_readNumber_37 : decode prog_5_method_6_code 37 = .ok (.iconst 1, 1) := by decide +kernel
theorem md_T_readNumber_38 : decode prog_5_method_6_code 38 = .ok (.iadd, 1) := by decide +kernel
theorem md_T_readNumber_39 : decode prog_5_method_6_code 39 = .ok (.putfield 28, 3) := by decide +kernel
theorem md_T_readNumber_42 : decode prog_5_method_6_code 42 = .ok (.iinc 2 1, 3) := by decide +kernel
theorem md_T_readNumber_45 : decode prog_5_method_6_code 45 = .ok (.goto (-41), 3) := by decide +kernel
def mj_T_readNumber_48 (x0 : Nat) (x1 : Int) (σ : pw_Sto) : Option (Int × pw_Sto) := pw_bd (mf_T_here x0 σ) (fun v2 s1 => pw_bd (mf_T_isDigit v2 s1) (fun v4 s3 => pw_ck v4 0 (if v4 = 0 then some (x1, s3) else some ((-1 : Int), s3))))
def mb_T_readNumber_4 (rc : Nat → Int → Int → pw_Sto → Option (Int × pw_Sto)) : Nat → Int → Int → pw_Sto → Option (Int × pw_Sto) := fun x0 x1 x2 σ => pw_ck x2 (4 : Int) (if (4 : Int) ≤ x2 then mj_T_readNumber_48 x0 x1 σ else pw_bd (mf_T_here x0 σ) (fun v6 s5 => pw_bd (mf_T_isDigit v6 s5) (fun v8 s7 => pw_ck v8 0 (if v8 = 0 then mj_T_readNumber_48 x0 x1 s7 else pw_bd (mf_T_here x0 s7) (fun v10 s9 => (pw_gi 2 x0 2 s9).bind (fun v11 => (pw_pi 2 x0 2 (v11 + (1 : Int)) s9).bind (fun s12 => rc x0 ((((10 : Int) * x1) + v10) - (48 : Int)) (x2 + 1) s12)))))))
def ml_T_readNumber_4 : Nat → Nat → Int → Int → pw_Sto → Option (Int × pw_Sto) := pw_lp (fun _ _ _ _ => none) (mb_T_readNumber_4)
def mf_T_readNumber (x0 : Nat) (σ : pw_Sto) : Option (Int × pw_Sto) := pw_gd 2 x0 σ (ml_T_readNumber_4 1000 x0 (0 : Int) (0 : Int) σ)
set_option maxHeartbeats 4000000 in
set_option maxRecDepth 20000 in
theorem sj_T_readNumber_48 {X : pw_X Int} (hX : pw_Ok X prog_5_method_6_code "PadeWorkbench$FractionText" mr_T_readNumber 3) (hR : pw_RI X prog_5_method_6_code) (x0 : Nat) (x1 : Int) (σ : pw_Sto) : pw_Sp X 0 0 48 [(0, Value.ref x0), (1, Value.int (iI x1))] [] σ (mj_T_readNumber_48 x0 x1 σ) := by
  unfold mj_T_readNumber_48
  refine sp_aload_n (pc := 48) (k := 0) (i := 0) hX rfl 0 rfl md_T_readNumber_48 ?_
  refine sp_callVI (pc := 49) (y := my_T_here) (ccy := prog_5_method_10_code) (nLy := 1) (ret := (some .int)) (rmy := mr_T_here) (n := 0) (idx := 68) (As := []) (st := []) (o := x0) (cells' := 0) (slots' := 0) hX (fun _ h => mc_T_here h) mk_T_here mv_T_here mcl_2 (fun _ h => pw_gd_of h) mq_457 ⟨(Nat.le_of_ble_eq_true rfl), (Nat.le_of_ble_eq_true rfl)⟩ rfl rfl (Nat.le_of_ble_eq_true rfl) ⟨(Nat.le_of_ble_eq_true rfl), (Nat.le_of_ble_eq_true rfl)⟩ rfl rfl md_T_readNumber_49 (fun v2 s1 => ?_)
  refine sp_callSI (pc := 52) (y := my_T_isDigit) (ccy := prog_5_method_11_code) (nLy := 1) (ret := (some .boolean)) (rmy := mr_T_isDigit) (n := 1) (idx := 53) (As := [.int (iI v2)]) (st := []) (cells' := 0) (slots' := 0) hX (fun _ h => mc_T_isDigit h) mk_T_isDigit mq_466 mq_465 ⟨(Nat.le_of_ble_eq_true rfl), (Nat.le_of_ble_eq_true rfl)⟩ rfl rfl (Nat.le_of_ble_eq_true rfl) ⟨(Nat.le_of_ble_eq_true rfl), (Nat.le_of_ble_eq_true rfl)⟩ rfl rfl md_T_readNumber_52 (fun v4 s3 => ?_)
  refine sp_if_eq (pc := 55) hX 62 (by decide) md_T_readNumber_55 (fun _ => ?_) (fun _ => ?_)
  · refine sp_iload_n (pc := 62) (k := 1) (i := 1) hX rfl 1 rfl md_T_readNumber_62 ?_
    exact sp_iret (pc := 63) hX hR rfl (Nat.le_of_ble_eq_true rfl) md_T_readNumber_63
  · refine sp_iconst (pc := 58) hX md_T_readNumber_58 ?_
    refine sp_goto (pc := 59) hX 63 (by decide) md_T_readNumber_59 ?_
    exact sp_iret (pc := 63) hX hR rfl (Nat.le_of_ble_eq_true rfl) md_T_readNumber_63
set_option maxHeartbeats 4000000 in
set_option maxRecDepth 20000 in
theorem sl_T_readNumber_4 {X : pw_X Int} (hX : pw_Ok X prog_5_method_6_code "PadeWorkbench$FractionText" mr_T_readNumber 3) (hR : pw_RI X prog_5_method_6_code) : ∀ (n : Nat) (x0 : Nat) (x1 : Int) (x2 : Int) (σ : pw_Sto), pw_Sp X 0 0 4 [(0, Value.ref x0), (1, Value.int (iI x1)), (2, Value.int (iI x2))] [] σ (ml_T_readNumber_4 n x0 x1 x2 σ) := by
  intro n
  induction n with
  | zero => intros; exact pw_none
  | succ n ih =>
    intro x0 x1 x2 σ
    show pw_Sp X 0 0 4 _ _ σ (mb_T_readNumber_4 (ml_T_readNumber_4 n) x0 x1 x2 σ)
    unfold mb_T_readNumber_4
    refine sp_iload_n (pc := 4) (k := 2) (i := 2) hX rfl 2 rfl md_T_readNumber_4 ?_
    refine sp_iconst (pc := 5) hX md_T_readNumber_5 ?_
    refine sp_icmp_ge (pc := 6) hX 48 (by decide) md_T_readNumber_6 (fun _ => ?_) (fun _ => ?_)
    · refine sp_sub [0, 1] (L' := [(0, Value.ref x0), (1, Value.int (iI x1))]) rfl ?_
      exact sj_T_readNumber_48 hX hR x0 x1 σ
    · refine sp_aload_n (pc := 9) (k := 0) (i := 0) hX rfl 0 rfl md_T_readNumber_9 ?_
      refine sp_callVI (pc := 10) (y := my_T_here) (ccy := prog_5_method_10_code) (nLy := 1) (ret := (some .int)) (rmy := mr_T_here) (n := 0) (idx := 68) (As := []) (st := []) (o := x0) (cells' := 0) (slots' := 0) hX (fun _ h => mc_T_here h) mk_T_here mv_T_here mcl_2 (fun _ h => pw_gd_of h) mq_457 ⟨(Nat.le_of_ble_eq_true rfl), (Nat.le_of_ble_eq_true rfl)⟩ rfl rfl (Nat.le_of_ble_eq_true rfl) ⟨(Nat.le_of_ble_eq_true rfl), (Nat.le_of_ble_eq_true rfl)⟩ rfl rfl md_T_readNumber_10 (fun v6 s5 => ?_)
      refine sp_callSI (pc := 13) (y := my_T_isDigit) (ccy := prog_5_method_11_code) (nLy := 1) (ret := (some .boolean)) (rmy := mr_T_isDigit) (n := 1) (idx := 53) (As := [.int (iI v6)]) (st := []) (cells' := 0) (slots' := 0) hX (fun _ h => mc_T_isDigit h) mk_T_isDigit mq_466 mq_465 ⟨(Nat.le_of_ble_eq_true rfl), (Nat.le_of_ble_eq_true rfl)⟩ rfl rfl (Nat.le_of_ble_eq_true rfl) ⟨(Nat.le_of_ble_eq_true rfl), (Nat.le_of_ble_eq_true rfl)⟩ rfl rfl md_T_readNumber_13 (fun v8 s7 => ?_)
      refine sp_if_eq (pc := 16) hX 48 (by decide) md_T_readNumber_16 (fun _ => ?_) (fun _ => ?_)
      · refine sp_sub [0, 1] (L' := [(0, Value.ref x0), (1, Value.int (iI x1))]) rfl ?_
        exact sj_T_readNumber_48 hX hR x0 x1 s7
      · refine sp_bipush (pc := 19) hX (by decide) md_T_readNumber_19 ?_
        refine sp_iload_n (pc := 21) (k := 1) (i := 1) hX rfl 1 rfl md_T_readNumber_21 ?_
        refine sp_imul (pc := 22) hX md_T_readNumber_22 ?_
        refine sp_aload_n (pc := 23) (k := 0) (i := 0) hX rfl 0 rfl md_T_readNumber_23 ?_
        refine sp_callVI (pc := 24) (y := my_T_here) (ccy := prog_5_method_10_code) (nLy := 1) (ret := (some .int)) (rmy := mr_T_here) (n := 0) (idx := 68) (As := []) (st := [.int (iI ((10 : Int) * x1))]) (o := x0) (cells' := 0) (slots' := 0) hX (fun _ h => mc_T_here h) mk_T_here mv_T_here mcl_2 (fun _ h => pw_gd_of h) mq_457 ⟨(Nat.le_of_ble_eq_true rfl), (Nat.le_of_ble_eq_true rfl)⟩ rfl rfl (Nat.le_of_ble_eq_true rfl) ⟨(Nat.le_of_ble_eq_true rfl), (Nat.le_of_ble_eq_true rfl)⟩ rfl rfl md_T_readNumber_24 (fun v10 s9 => ?_)
        refine sp_iadd (pc := 27) hX md_T_readNumber_27 ?_
        refine sp_bipush (pc := 28) hX (by decide) md_T_readNumber_28 ?_
        refine sp_isub (pc := 30) hX md_T_readNumber_30 ?_
        refine sp_istore_n (pc := 31) (k := 1) (i := 1) (L' := [(1, Value.int (iI ((((10 : Int) * x1) + v10) - (48 : Int)))), (0, Value.ref x0), (2, Value.int (iI x2))]) hX rfl (by decide) rfl md_T_readNumber_31 ?_
        refine sp_aload_n (pc := 32) (k := 0) (i := 0) hX rfl 1 rfl md_T_readNumber_32 ?_
        refine sp_dup (pc := 33) hX rfl md_T_readNumber_33 ?_
        refine sp_getI (pc := 34) (ci := 2) (k := 2) (idx := 28) hX mcl_2 (by decide) mq_155 rfl md_T_readNumber_34 (fun v11 => ?_)
        refine sp_iconst (pc := 37) hX md_T_readNumber_37 ?_
        refine sp_iadd (pc := 38) hX md_T_readNumber_38 ?_
        refine sp_putI (pc := 39) (ci := 2) (k := 2) (idx := 28) hX mcl_2 (by decide) mq_155 rfl rfl rfl md_T_readNumber_39 (fun s12 => ?_)
        refine sp_iinc (pc := 42) (i := 2) (L' := [(2, Value.int (iI (x2 + 1))), (1, Value.int (iI ((((10 : Int) * x1) + v10) - (48 : Int)))), (0, Value.ref x0)]) hX 2 rfl (by decide) rfl md_T_readNumber_42 ?_
        refine sp_goto (pc := 45) hX 4 (by decide) md_T_readNumber_45 ?_
        refine sp_sub [2, 1, 0] (L' := [(0, Value.ref x0), (1, Value.int (iI ((((10 : Int) * x1) + v10) - (48 : Int)))), (2, Value.int (iI (x2 + 1)))]) rfl ?_
        exact ih x0 ((((10 : Int) * x1) + v10) - (48 : Int)) (x2 + 1) s12
set_option maxHeartbeats 4000000 in
set_option maxRecDepth 20000 in
theorem mc_T_readNumber {l : Launch} {E : pw_E} {σ : pw_Sto} {x0 : Nat} {out : Int × pw_Sto} (h : mf_T_readNumber x0 σ = some out) : pw_CI l E my_T_readNumber prog_5_method_6_code 3 (some .int) mr_T_readNumber [.ref x0] σ out := by
  unfold mf_T_readNumber at h
  refine pw_entryI (by decide) (Nat.le_of_ble_eq_true rfl) (pw_gd_val h) (fun X hX hR hI => ?_)
  change pw_Ok X prog_5_method_6_code "PadeWorkbench$FractionText" mr_T_readNumber 3 at hX
  show pw_Sp X 0 0 0 [(0, Value.ref x0)] [] σ _
  refine sp_iconst (pc := 0) hX md_T_readNumber_0 ?_
  refine sp_istore_n (pc := 1) (k := 1) (i := 1) (L' := [(1, Value.int (iI (0 : Int))), (0, Value.ref x0)]) hX rfl (by decide) rfl md_T_readNumber_1 ?_
  refine sp_iconst (pc := 2) hX md_T_readNumber_2 ?_
  refine sp_istore_n (pc := 3) (k := 2) (i := 2) (L' := [(2, Value.int (iI (0 : Int))), (1, Value.int (iI (0 : Int))), (0, Value.ref x0)]) hX rfl (by decide) rfl md_T_readNumber_3 ?_
  refine sp_sub [2, 1, 0] (L' := [(0, Value.ref x0), (1, Value.int (iI (0 : Int))), (2, Value.int (iI (0 : Int)))]) rfl ?_
  exact sl_T_readNumber_4 hX hR 1000 x0 (0 : Int) (0 : Int) σ
/-! PadeWorkbench$FractionText.readExponent()I -/
theorem md_T_readExponent_0 : decode prog_5_method_7_code 0 = .ok (.aload_n 0, 1) := by decide +kernel
theorem md_T_readExponent_1 : decode prog_5_method_7_code 1 = .ok (.invokevirtual 45, 3) := by decide +kernel
theorem md_T_readExponent_4 : decode prog_5_method_7_code 4 = .ok (.invokestatic 53, 3) := by decide +kernel
theorem md_T_readExponent_7 : decode prog_5_method_7_code 7 = .ok (.ifCond .ne 5, 3) := by decide +kernel
theorem md_T_readExponent_12 : decode prog_5_method_7_code 12 = .ok (.aload_n 0, 1) := by decide +kernel
theorem md_T_readExponent_13 : decode prog_5_method_7_code 13 = .ok (.getfield 28, 3) := by decide +kernel
theorem md_T_readExponent_16 : decode prog_5_method_7_code 16 = .ok (.istore_n 1, 1) := by decide +kernel
theorem md_T_readExponent_17 : decode prog_5_method_7_code 17 = .ok (.aload_n 0, 1) := by decide +kernel
theorem md_T_readExponent_18 : decode prog_5_method_7_code 18 = .ok (.invokevirtual 68, 3) := by decide +kernel
theorem md_T_readExponent_21 : decode prog_5_method_7_code 21 = .ok (.bipush 48, 2) := by decide +kernel
theorem md_T_readExponent_23 : decode prog_5_method_7_code 23 = .ok (.isub, 1) := by decide +kernel
theorem md_T_readExponent_24 : decode prog_5_method_7_code 24 = .ok (.istore_n 2, 1) := by decide +kernel
theorem md_T_readExponent_25 : decode prog_5_method_7_code 25 = .ok (.aload_n 0, 1) := by decide +kernel
theorem md_T_readExponent_26 : decode prog_5_method_7_code 26 = .ok (.dup, 1) := by decide +kernel
theorem md_T_readExponent_27 : decode prog_5_method_7_code 27 = .ok (.getfield 28, 3) := by decide +kernel
theorem md_T_readExponent_30 : decode prog_5_method_7_code 30 = .ok (.iconst 1, 1) := by decide +kernel
theorem md_T_readExponent_31 : decode prog_5_method_7_code 31 = .ok (.iadd, 1) := by decide +kernel
theorem md_T_readExponent_32 : decode prog_5_method_7_code 32 = .ok (.putfield 28, 3) := by decide +kernel
theorem md_T_readExponent_35 : decode prog_5_method_7_code 35 = .ok (.aload_n 0, 1) := by decide +kernel
theorem md_T_readExponent_36 : decode prog_5_method_7_code 36 = .ok (.invokevirtual 68, 3) := by decide +kernel
theorem md_T_readExponent_39 : decode prog_5_method_7_code 39 = .ok (.invokestatic 53, 3) := by decide +kernel
theorem md_T_readExponent_42 : decode prog_5_method_7_code 42 = .ok (.ifCond .eq 26, 3) := by decide +kernel
theorem md_T_readExponent_68 : decode prog_5_method_7_code 68 = .ok (.aload_n 0, 1) := by decide +kernel
theorem md_T_readExponent_69 : decode prog_5_method_7_code 69 = .ok (.invokevirtual 68, 3) := by decide +kernel
theorem md_T_readExponent_72 : decode prog_5_method_7_code 72 = .ok (.invokestatic 53, 3) := by decide +kernel
theorem md_T_readExponent_75 : decode prog_5_method_7_code 75 = .ok (.ifCond .eq 5, 3) := by decide +kernel
theorem md_T_readExponent_80 : decode prog_5_method_7_code 80 = .ok (.iload_n 2, 1) := by decide +kernel
theorem md_T_readExponent_81 : decode prog_5_method_7_code 81 = .ok (.bipush 16, 2) := by decide +kernel
theorem md_T_readExponent_83 : decode prog_5_method_7_code 83 = .ok (.if_icmp .lt 10, 3) := by decide +kernel
theorem md_T_readExponent_93 : decode prog_5_method_7_code 93 = .ok (.iload_n 2, 1) := by decide +kernel
theorem md_T_readExponent_94 : decode prog_5_method_7_code 94 = .ok (.ireturn, 1) := by decide +kernel
theorem md_T_readExponent_86 : decode prog_5_method_7_code 86 = .ok (.aload_n 0, 1) := by decide +kernel
theorem md_T_readExponent_87 : decode prog_5_method_7_code 87 = .ok (.iload_n 1, 1) := by decide +kernel
theorem md_T_readExponent_88 : decode prog_5_method_7_code 88 = .ok (.putfield 28, 3) := by decide +kernel
theorem md_T_readExponent_91 : decode prog_5_method_7_code 91 = .ok (.iconst (-1), 1) := by decide +kernel
theorem md_T_readExponent_92 : decode prog_5_method_7_code 92 = .ok (.ireturn, 1) := by decide +kernel
theorem md_T_readExponent_78 : decode prog_5_method_7_code 78 = .ok (.iconst (-1), 1) := by decide +kernel
theorem md_T_readExponent_79 : decode prog_5_method_7_code 79 = .ok (.ireturn, 1) := by decide +kernel
theorem md_T_readExponent_45 : decode prog_5_method_7_code 45 = .ok (.bipush 10, 2) := by decide +kernel
theorem md_T_readExponent_47 : decode prog_5_method_7_code 47 = .ok (.iload_n 2, 1) := by decide +kernel
theorem md_T_readExponent_48 : decode prog_5_method_7_code 48 = .ok (.imul, 1) := by decide +kernel
theorem md_T_readExponent_49 : decode prog_5_method_7_code 49 = .ok (.aload_n 0, 1) := by decide +kernel
theorem md_T_readExponent_50 : decode prog_5_method_7_code 50 = .ok (.invokevirtual 68, 3) := by decide +kernel
theorem md_T_readExponent_53 : decode prog_5_method_7_code 53 = .ok (.iadd, 1) := by decide +kernel
theorem md_T_readExponent_54 : decode prog_5_method_7_code 54 = .ok (.bipush 48, 2) := by decide +kernel
theorem md_T_readExponent_56 : decode prog_5_method_7_code 56 = .ok (.isub, 1) := by decide +kernel
theorem md_T_readExponent_57 : decode prog_5_method_7_code 57 = .ok (.istore_n 2, 1) := by decide +kernel
theorem md_T_readExponent_58 : decode prog_5_method_7_code 58 = .ok (.aload_n 0, 1) := by decide +kernel
theorem md_T_readExponent_59 : decode prog_5_method_7_code 59 = .ok (.dup, 1) := by decide +kernel
theorem md_T_readExponent_60 : decode prog_5_method_7_code 60 = .ok (.getfield 28, 3) := by decide +kernel
theorem md_T_readExponent_63 : decode prog_5_method_7_code 63 = .ok (.iconst 1, 1) := by decide +kernel
theorem md_T_readExponent_64 : decode prog_5_method_7_code 64 = .ok (.iadd, 1) := by decide +kernel
theorem md_T_readExponent_65 : decode prog_5_method_7_code 65 = .ok (.putfield 28, 3) := by decide +kernel
theorem md_T_readExponent_10 : decode prog_5_method_7_code 10 = .ok (.iconst (-1), 1) := by decide +kernel
theorem md_T_readExponent_11 : decode prog_5_method_7_code 11 = .ok (.ireturn, 1) := by decide +kernel
def mj_T_readExponent_68 (x0 : Nat) (x1 : Int) (x2 : Int) (σ : pw_Sto) : Option (Int × pw_Sto) := pw_bd (mf_T_here x0 σ) (fun v15 s14 => pw_bd (mf_T_isDigit v15 s14) (fun v17 s16 => pw_ck v17 0 (if v17 = 0 then pw_ck x2 (16 : Int) (if x2 < (16 : Int) then some (x2, s16) else (pw_pi 2 x0 2 x1 s16).bind (fun s18 => some ((-1 : Int), s18))) else some ((-1 : Int), s16))))
def mf_T_readExponent (x0 : Nat) (σ : pw_Sto) : Option (Int × pw_Sto) := pw_gd 2 x0 σ (pw_bd (mf_T_peek x0 σ) (fun v2 s1 => pw_bd (mf_T_isDigit v2 s1) (fun v4 s3 => pw_ck v4 0 (if v4 = 0 then some ((-1 : Int), s3) else (pw_gi 2 x0 2 s3).bind (fun v5 => pw_bd (mf_T_here x0 s3) (fun v7 s6 => (pw_gi 2 x0 2 s6).bind (fun v8 => (pw_pi 2 x0 2 (v8 + (1 : Int)) s6).bind (fun s9 => pw_bd (mf_T_here x0 s9) (fun v11 s10 => pw_bd (mf_T_isDigit v11 s10) (fun v13 s12 => pw_ck v13 0 (if v13 = 0 then mj_T_readExponent_68 x0 v5 (v7 - (48 : Int)) s12 else pw_bd (mf_T_here x0 s12) (fun v20 s19 => (pw_gi 2 x0 2 s19).bind (fun v21 => (pw_pi 2 x0 2 (v21 + (1 : Int)) s19).bind (fun s22 => mj_T_readExponent_68 x0 v5 ((((10 : Int) * (v7 - (48 : Int))) + v20) - (48 : Int)) s22))))))))))))))
set_option maxHeartbeats 4000000 in
set_option maxRecDepth 20000 in
theorem sj_T_readExponent_68 {X : pw_X Int} (hX : pw_Ok X prog_5_method_7_code "PadeWorkbench$FractionText" mr_T_readExponent 3) (hR : pw_RI X prog_5_method_7_code) (x0 : Nat) (x1 : Int) (x2 : Int) (σ : pw_Sto) : pw_Sp X 0 0 68 [(0, Value.ref x0), (1, Value.int (iI x1)), (2, Value.int (iI x2))] [] σ (mj_T_readExponent_68 x0 x1 x2 σ) := by
  unfold mj_T_readExponent_68
  refine sp_aload_n (pc := 68) (k := 0) (i := 0) hX rfl 0 rfl md_T_readExponent_68 ?_
  refine sp_callVI (pc := 69) (y := my_T_here) (ccy := prog_5_method_10_code) (nLy := 1) (ret := (some .int)) (rmy := mr_T_here) (n := 0) (idx := 68) (As := []) (st := []) (o := x0) (cells' := 0) (slots' := 0) hX (fun _ h => mc_T_here h) mk_T_here mv_T_here mcl_2 (fun _ h => pw_gd_of h) mq_457 ⟨(Nat.le_of_ble_eq_true rfl), (Nat.le_of_ble_eq_true rfl)⟩ rfl rfl (Nat.le_of_ble_eq_true rfl) ⟨(Nat.le_of_ble_eq_true rfl), (Nat.le_of_ble_eq_true rfl)⟩ rfl rfl md_T_readExponent_69 (fun v15 s14 => ?_)
  refine sp_callSI (pc := 72) (y := my_T_isDigit) (ccy := prog_5_method_11_code) (nLy := 1) (ret := (some .boolean)) (rmy := mr_T_isDigit) (n := 1) (idx := 53) (As := [.int (iI v15)]) (st := []) (cells' := 0) (slots' := 0) hX (fun _ h => mc_T_isDigit h) mk_T_isDigit mq_466 mq_465 ⟨(Nat.le_of_ble_eq_true rfl), (Nat.le_of_ble_eq_true rfl)⟩ rfl rfl (Nat.le_of_ble_eq_true rfl) ⟨(Nat.le_of_ble_eq_true rfl), (Nat.le_of_ble_eq_true rfl)⟩ rfl rfl md_T_readExponent_72 (fun v17 s16 => ?_)
  refine sp_if_eq (pc := 75) hX 80 (by decide) md_T_readExponent_75 (fun _ => ?_) (fun _ => ?_)
  · refine sp_iload_n (pc := 80) (k := 2) (i := 2) hX rfl 2 rfl md_T_readExponent_80 ?_
    refine sp_bipush (pc := 81) hX (by decide) md_T_readExponent_81 ?_
    refine sp_icmp_lt (pc := 83) hX 93 (by decide) md_T_readExponent_83 (fun _ => ?_) (fun _ => ?_)
    · refine sp_iload_n (pc := 93) (k := 2) (i := 2) hX rfl 2 rfl md_T_readExponent_93 ?_
      exact sp_iret (pc := 94) hX hR rfl (Nat.le_of_ble_eq_true rfl) md_T_readExponent_94
    · refine sp_aload_n (pc := 86) (k := 0) (i := 0) hX rfl 0 rfl md_T_readExponent_86 ?_
      refine sp_iload_n (pc := 87) (k := 1) (i := 1) hX rfl 1 rfl md_T_readExponent_87 ?_
      refine sp_putI (pc := 88) (ci := 2) (k := 2) (idx := 28) hX mcl_2 (by decide) mq_155 rfl rfl rfl md_T_readExponent_88 (fun s18 => ?_)
      refine sp_iconst (pc := 91) hX md_T_readExponent_91 ?_
      exact sp_iret (pc := 92) hX hR rfl (Nat.le_of_ble_eq_true rfl) md_T_readExponent_92
  · refine sp_iconst (pc := 78) hX md_T_readExponent_78 ?_
    exact sp_iret (pc := 79) hX hR rfl (Nat.le_of_ble_eq_true rfl) md_T_readExponent_79
set_option maxHeartbeats 4000000 in
set_option maxRecDepth 20000 in
theorem mc_T_readExponent {l : Launch} {E : pw_E} {σ : pw_Sto} {x0 : Nat} {out : Int × pw_Sto} (h : mf_T_readExponent x0 σ = some out) : pw_CI l E my_T_readExponent prog_5_method_7_code 3 (some .int) mr_T_readExponent [.ref x0] σ out := by
  unfold mf_T_readExponent at h
  refine pw_entryI (by decide) (Nat.le_of_ble_eq_true rfl) (pw_gd_val h) (fun X hX hR hI => ?_)
  change pw_Ok X prog_5_method_7_code "PadeWorkbench$FractionText" mr_T_readExponent 3 at hX
  show pw_Sp X 0 0 0 [(0, Value.ref x0)] [] σ _
  refine sp_aload_n (pc := 0) (k := 0) (i := 0) hX rfl 0 rfl md_T_readExponent_0 ?_
  refine sp_callVI (pc := 1) (y := my_T_peek) (ccy := prog_5_method_9_code) (nLy := 1) (ret := (some .int)) (rmy := mr_T_peek) (n := 0) (idx := 45) (As := []) (st := []) (o := x0) (cells' := 0) (slots' := 0) hX (fun _ h => mc_T_peek h) mk_T_peek mv_T_peek mcl_2 (fun _ h => pw_gd_of h) mq_453 ⟨(Nat.le_of_ble_eq_true rfl), (Nat.le_of_ble_eq_true rfl)⟩ rfl rfl (Nat.le_of_ble_eq_true rfl) ⟨(Nat.le_of_ble_eq_true rfl), (Nat.le_of_ble_eq_true rfl)⟩ rfl rfl md_T_readExponent_1 (fun v2 s1 => ?_)
  refine sp_callSI (pc := 4) (y := my_T_isDigit) (ccy := prog_5_method_11_code) (nLy := 1) (ret := (some .boolean)) (rmy := mr_T_isDigit) (n := 1) (idx := 53) (As := [.int (iI v2)]) (st := []) (cells' := 0) (slots' := 0) hX (fun _ h => mc_T_isDigit h) mk_T_isDigit mq_466 mq_465 ⟨(Nat.le_of_ble_eq_true rfl), (Nat.le_of_ble_eq_true rfl)⟩ rfl rfl (Nat.le_of_ble_eq_true rfl) ⟨(Nat.le_of_ble_eq_true rfl), (Nat.le_of_ble_eq_true rfl)⟩ rfl rfl md_T_readExponent_4 (fun v4 s3 => ?_)
  refine sp_if_ne (pc := 7) hX 12 (by decide) md_T_readExponent_7 (fun _ => ?_) (fun _ => ?_)
  · refine sp_iconst (pc := 10) hX md_T_readExponent_10 ?_
    exact sp_iret (pc := 11) hX hR rfl (Nat.le_of_ble_eq_true rfl) md_T_readExponent_11
  · refine sp_aload_n (pc := 12) (k := 0) (i := 0) hX rfl 0 rfl md_T_readExponent_12 ?_
    refine sp_getI (pc := 13) (ci := 2) (k := 2) (idx := 28) hX mcl_2 (by decide) mq_155 rfl md_T_readExponent_13 (fun v5 => ?_)
    refine sp_istore_n (pc := 16) (k := 1) (i := 1) (L' := [(1, Value.int (iI v5)), (0, Value.ref x0)]) hX rfl (by decide) rfl md_T_readExponent_16 ?_
    refine sp_aload_n (pc := 17) (k := 0) (i := 0) hX rfl 1 rfl md_T_readExponent_17 ?_
    refine sp_callVI (pc := 18) (y := my_T_here) (ccy := prog_5_method_10_code) (nLy := 1) (ret := (some .int)) (rmy := mr_T_here) (n := 0) (idx := 68) (As := []) (st := []) (o := x0) (cells' := 0) (slots' := 0) hX (fun _ h => mc_T_here h) mk_T_here mv_T_here mcl_2 (fun _ h => pw_gd_of h) mq_457 ⟨(Nat.le_of_ble_eq_true rfl), (Nat.le_of_ble_eq_true rfl)⟩ rfl rfl (Nat.le_of_ble_eq_true rfl) ⟨(Nat.le_of_ble_eq_true rfl), (Nat.le_of_ble_eq_true rfl)⟩ rfl rfl md_T_readExponent_18 (fun v7 s6 => ?_)
    refine sp_bipush (pc := 21) hX (by decide) md_T_readExponent_21 ?_
    refine sp_isub (pc := 23) hX md_T_readExponent_23 ?_
    refine sp_istore_n (pc := 24) (k := 2) (i := 2) (L' := [(2, Value.int (iI (v7 - (48 : Int)))), (1, Value.int (iI v5)), (0, Value.ref x0)]) hX rfl (by decide) rfl md_T_readExponent_24 ?_
    refine sp_aload_n (pc := 25) (k := 0) (i := 0) hX rfl 2 rfl md_T_readExponent_25 ?_
    refine sp_dup (pc := 26) hX rfl md_T_readExponent_26 ?_
    refine sp_getI (pc := 27) (ci := 2) (k := 2) (idx := 28) hX mcl_2 (by decide) mq_155 rfl md_T_readExponent_27 (fun v8 => ?_)
    refine sp_iconst (pc := 30) hX md_T_readExponent_30 ?_
    refine sp_iadd (pc := 31) hX md_T_readExponent_31 ?_
    refine sp_putI (pc := 32) (ci := 2) (k := 2) (idx := 28) hX mcl_2 (by decide) mq_155 rfl rfl rfl md_T_readExponent_32 (fun s9 => ?_)
    refine sp_aload_n (pc := 35) (k := 0) (i := 0) hX rfl 2 rfl md_T_readExponent_35 ?_
    refine sp_callVI (pc := 36) (y := my_T_here) (ccy := prog_5_method_10_code) (nLy := 1) (ret := (some .int)) (rmy := mr_T_here) (n := 0) (idx := 68) (As := []) (st := []) (o := x0) (cells' := 0) (slots' := 0) hX (fun _ h => mc_T_here h) mk_T_here mv_T_here mcl_2 (fun _ h => pw_gd_of h) mq_457 ⟨(Nat.le_of_ble_eq_true rfl), (Nat.le_of_ble_eq_true rfl)⟩ rfl rfl (Nat.le_of_ble_eq_true rfl) ⟨(Nat.le_of_ble_eq_true rfl), (Nat.le_of_ble_eq_true rfl)⟩ rfl rfl md_T_readExponent_36 (fun v11 s10 => ?_)
    refine sp_callSI (pc := 39) (y := my_T_isDigit) (ccy := prog_5_method_11_code) (nLy := 1) (ret := (some .boolean)) (rmy := mr_T_isDigit) (n := 1) (idx := 53) (As := [.int (iI v11)]) (st := []) (cells' := 0) (slots' := 0) hX (fun _ h => mc_T_isDigit h) mk_T_isDigit mq_466 mq_465 ⟨(Nat.le_of_ble_eq_true rfl), (Nat.le_of_ble_eq_true rfl)⟩ rfl rfl (Nat.le_of_ble_eq_true rfl) ⟨(Nat.le_of_ble_eq_true rfl), (Nat.le_of_ble_eq_true rfl)⟩ rfl rfl md_T_readExponent_39 (fun v13 s12 => ?_)
    refine sp_if_eq (pc := 42) hX 68 (by decide) md_T_readExponent_42 (fun _ => ?_) (fun _ => ?_)
    · refine sp_sub [2, 1, 0] (L' := [(0, Value.ref x0), (1, Value.int (iI v5)), (2, Value.int (iI (v7 - (48 : Int))))]) rfl ?_
      exact sj_T_readExponent_68 hX hR x0 v5 (v7 - (48 : Int)) s12
    · refine sp_bipush (pc := 45) hX (by decide) md_T_readExponent_45 ?_
      refine sp_iload_n (pc := 47) (k := 2) (i := 2) hX rfl 0 rfl md_T_readExponent_47 ?_
      refine sp_imul (pc := 48) hX md_T_readExponent_48 ?_
      refine sp_aload_n (pc := 49) (k := 0) (i := 0) hX rfl 2 rfl md_T_readExponent_49 ?_
      refine sp_callVI (pc := 50) (y := my_T_here) (ccy := prog_5_method_10_code) (nLy := 1) (ret := (some .int)) (rmy := mr_T_here) (n := 0) (idx := 68) (As := []) (st := [.int (iI ((10 : Int) * (v7 - (48 : Int))))]) (o := x0) (cells' := 0) (slots' := 0) hX (fun _ h => mc_T_here h) mk_T_here mv_T_here mcl_2 (fun _ h => pw_gd_of h) mq_457 ⟨(Nat.le_of_ble_eq_true rfl), (Nat.le_of_ble_eq_true rfl)⟩ rfl rfl (Nat.le_of_ble_eq_true rfl) ⟨(Nat.le_of_ble_eq_true rfl), (Nat.le_of_ble_eq_true rfl)⟩ rfl rfl md_T_readExponent_50 (fun v20 s19 => ?_)
      refine sp_iadd (pc := 53) hX md_T_readExponent_53 ?_
      refine sp_bipush (pc := 54) hX (by decide) md_T_readExponent_54 ?_
      refine sp_isub (pc := 56) hX md_T_readExponent_56 ?_
      refine sp_istore_n (pc := 57) (k := 2) (i := 2) (L' := [(2, Value.int (iI ((((10 : Int) * (v7 - (48 : Int))) + v20) - (48 : Int)))), (1, Value.int (iI v5)), (0, Value.ref x0)]) hX rfl (by decide) rfl md_T_readExponent_57 ?_
      refine sp_aload_n (pc := 58) (k := 0) (i := 0) hX rfl 2 rfl md_T_readExponent_58 ?_
      refine sp_dup (pc := 59) hX rfl md_T_readExponent_59 ?_
      refine sp_getI (pc := 60) (ci := 2) (k := 2) (idx := 28) hX mcl_2 (by decide) mq_155 rfl md_T_readExponent_60 (fun v21 => ?_)
      refine sp_iconst (pc := 63) hX md_T_readExponent_63 ?_
      refine sp_iadd (pc := 64) hX md_T_readExponent_64 ?_
      refine sp_putI (pc := 65) (ci := 2) (k := 2) (idx := 28) hX mcl_2 (by decide) mq_155 rfl rfl rfl md_T_readExponent_65 (fun s22 => ?_)
      refine sp_sub [2, 1, 0] (L' := [(0, Value.ref x0), (1, Value.int (iI v5)), (2, Value.int (iI ((((10 : Int) * (v7 - (48 : Int))) + v20) - (48 : Int))))]) rfl ?_
      exact sj_T_readExponent_68 hX hR x0 v5 ((((10 : Int) * (v7 - (48 : Int))) + v20) - (48 : Int)) s22
/-! PadeWorkbench$FractionText.readTerm([IZ)Z -/
theorem md_T_readTerm_0 : decode prog_5_method_5_code 0 = .ok (.iconst 1, 1) := by decide +kernel
theorem md_T_readTerm_1 : decode prog_5_method_5_code 1 = .ok (.istore_n 3, 1) := by decide +kernel
theorem md_T_readTerm_2 : decode prog_5_method_5_code 2 = .ok (.iconst 0, 1) := by decide +kernel
theorem md_T_readTerm_3 : decode prog_5_method_5_code 3 = .ok (.istore 4, 2) := by decide +kernel
theorem md_T_readTerm_5 : decode prog_5_method_5_code 5 = .ok (.aload_n 0, 1) := by decide +kernel
theorem md_T_readTerm_6 : decode prog_5_method_5_code 6 = .ok (.invokevirtual 45, 3) := by decide +kernel
theorem md_T_readTerm_9 : decode prog_5_method_5_code 9 = .ok (.invokestatic 53, 3) := by decide +kernel
theorem md_T_readTerm_12 : decode prog_5_method_5_code 12 = .ok (.istore 5, 2) := by decide +kernel
theorem md_T_readTerm_14 : decode prog_5_method_5_code 14 = .ok (.iload 5, 2) := by decide +kernel
theorem md_T_readTerm_16 : decode prog_5_method_5_code 16 = .ok (.ifCond .eq 14, 3) := by decide +kernel
theorem md_T_readTerm_30 : decode prog_5_method_5_code 30 = .ok (.aload_n 0, 1) := by decide +kernel
theorem md_T_readTerm_31 : decode prog_5_method_5_code 31 = .ok (.bipush 120, 2) := by decide +kernel
theorem md_T_readTerm_33 : decode prog_5_method_5_code 33 = .ok (.invokevirtual 41, 3) := by decide +kernel
theorem md_T_readTerm_36 : decode prog_5_method_5_code 36 = .ok (.ifCond .eq 25, 3) := by decide +kernel
theorem md_T_readTerm_61 : decode prog_5_method_5_code 61 = .ok (.iload 5, 2) := by decide +kernel
theorem md_T_readTerm_63 : decode prog_5_method_5_code 63 = .ok (.ifCond .ne 5, 3) := by decide +kernel
theorem md_T_readTerm_68 : decode prog_5_method_5_code 68 = .ok (.iload 4, 2) := by decide +kernel
theorem md_T_readTerm_70 : decode prog_5_method_5_code 70 = .ok (.ifCond .lt 10, 3) := by decide +kernel
theorem md_T_readTerm_80 : decode prog_5_method_5_code 80 = .ok (.iconst 0, 1) := by decide +kernel
theorem md_T_readTerm_81 : decode prog_5_method_5_code 81 = .ok (.ireturn, 1) := by decide +kernel
theorem md_T_readTerm_73 : decode prog_5_method_5_code 73 = .ok (.iload 4, 2) := by decide +kernel
theorem md_T_readTerm_75 : decode prog_5_method_5_code 75 = .ok (.bipush 16, 2) := by decide +kernel
theorem md_T_readTerm_77 : decode prog_5_method_5_code 77 = .ok (.if_icmp .lt 5, 3) := by decide +kernel
theorem md_T_readTerm_82 : decode prog_5_method_5_code 82 = .ok (.iload_n 3, 1) := by decide +kernel
theorem md_T_readTerm_83 : decode prog_5_method_5_code 83 = .ok (.aload_n 0, 1) := by decide +kernel
theorem md_T_readTerm_84 : decode prog_5_method_5_code 84 = .ok (.getfield 25, 3) := by decide +kernel
theorem md_T_readTerm_87 : decode prog_5_method_5_code 87 = .ok (.invokestatic 62, 3) := by decide +kernel
theorem md_T_readTerm_90 : decode prog_5_method_5_code 90 = .ok (.istore 6, 2) := by decide +kernel
theorem md_T_readTerm_92 : decode prog_5_method_5_code 92 = .ok (.aload_n 1, 1) := by decide +kernel
theorem md_T_readTerm_93 : decode prog_5_method_5_code 93 = .ok (.iload 4, 2) := by decide +kernel
theorem md_T_readTerm_95 : decode prog_5_method_5_code 95 = .ok (.aload_n 1, 1) := by decide +kernel
theorem md_T_readTerm_96 : decode prog_5_method_5_code 96 = .ok (.iload 4, 2) := by decide +kernel
theorem md_T_readTerm_98 : decode prog_5_method_5_code 98 = .ok (.iaload, 1) := by decide +kernel
theorem md_T_readTerm_99 : decode prog_5_method_5_code 99 = .ok (.iload_n 2, 1) := by decide +kernel
theorem md_T_readTerm_100 : decode prog_5_method_5_code 100 = .ok (.ifCond .eq 13, 3) := by decide +kernel
theorem md_T_readTerm_113 : decode prog_5_method_5_code 113 = .ok (.iload 6, 2) := by decide +kernel
theorem md_T_readTerm_115 : decode prog_5_method_5_code 115 = .ok (.iadd, 1) := by decide +kernel
theorem md_T_readTerm_116 : decode prog_5_method_5_code 116 = .ok (.aload_n 0, 1) := by decide +kernel
theorem md_T_readTerm_117 : decode prog_5_method_5_code 117 = .ok (.getfield 25, 3) := by decide +kernel
theorem md_T_readTerm_120 : decode prog_5_method_5_code 120 = .ok (.invokestatic 62, 3) := by decide +kernel
theorem md_T_readTerm_123 : decode prog_5_method_5_code 123 = .ok (.iastore, 1) := by decide +kernel
theorem md_T_readTerm_124 : decode prog_5_method_5_code 124 = .ok (.iconst 1, 1) := by decide +kernel
theorem md_T_readTerm_125 : decode prog_5_method_5_code 125 = .ok (.ireturn, 1) := by decide +kernel
theorem md_T_readTerm_103 : decode prog_5_method_5_code 103 = .ok (.aload_n 0, 1) := by decide +kernel
theorem md_T_readTerm_104 : decode prog_5_method_5_code 104 = .ok (.getfield 25, 3) := by decide +kernel
theorem md_T_readTerm_107 : decode prog_5_method_5_code 107 = .ok (.iload 6, 2) := by decide +kernel
theorem md_T_readTerm_109 : decode prog_5_method_5_code 109 = .ok (.isub, 1) := by decide +kernel
theorem md_T_readTerm_110 : decode prog_5_method_5_code 110 = .ok (.goto 5, 3) := by decide +kernel
theorem md_T_readTerm_66 : decode prog_5_method_5_code 66 = .ok (.iconst 0, 1) := by decide +kernel
theorem md_T_readTerm_67 : decode prog_5_method_5_code 67 = .ok (.ireturn, 1) := by decide +kernel
theorem md_T_readTerm_39 : decode prog_5_method_5_code 39 = .ok (.aload_n 0, 1) := by decide +kernel
theorem md_T_readTerm_40 : decode prog_5_method_5_code 40 = .ok (.bipush 94, 2) := by decide +kernel
theorem md_T_readTerm_42 : decode prog_5_method_5_code 42 = .ok (.invokevirtual 41, 3) := by decide +kernel
theorem md_T_readTerm_45 : decode prog_5_method_5_code 45 = .ok (.ifCond .eq 10, 3) := by decide +kernel
theorem md_T_readTerm_55 : decode prog_5_method_5_code 55 = .ok (.iconst 1, 1) := by decide +kernel
theorem md_T_readTerm_56 : decode prog_5_method_5_code 56 = .ok (.istore 4, 2) := by decide +kernel
theorem md_T_readTerm_58 : decode prog_5_method_5_code 58 = .ok (.goto 10, 3) := by decide +kernel
theorem md_T_readTerm_48 : decode prog_5_method_5_code 48 = .ok (.aload_n 0, 1) := by decide +kernel
theorem md_T_readTerm_49 : decode prog_5_method_5_code 49 = .ok (.invokevirtual 59, 3) := by decide +kernel
theorem md_T_readTerm_52 : decode prog_5_method_5_code 52 = .ok (.goto 4, 3) := by decide +kernel
theorem md_T_readTerm_19 : decode prog_5_method_5_code 19 = .ok (.aload_n 0, 1) := by decide +kernel
theorem md_T_readTerm_20 : decode prog_5_method_5_code 20 = .ok (.invokevirtual 56, 3) := by decide +kernel
theorem md_T_readTerm_23 : decode prog_5_method_5_code 23 = .ok (.istore_n 3, 1) := by decide +kernel
theorem md_T_readTerm_24 : decode prog_5_method_5_code 24 = .ok (.iload_n 3, 1) := by decide +kernel
theorem md_T_readTerm_25 : decode prog_5_method_5_code 25 = .ok (.ifCond .ge 5, 3) := by decide +kernel
theorem md_T_readTerm_28 : decode prog_5_method_5_code 28 = .ok (.iconst 0, 1) := by decide +kernel
theorem md_T_readTerm_29 : decode prog_5_method_5_code 29 = .ok (.ireturn, 1) := by decide +kernel
def mj_T_readTerm_115 (x0 : Nat) (y0 : Int) (y1 : Int) (y2 : Int) (y3 : Nat) (σ : pw_Sto) : Option (Int × pw_Sto) := (pw_gi 2 x0 3 σ).bind (fun v11 => pw_bd (mf_K_reduce (y1 + y0) v11 σ) (fun v13 s12 => (pw_si y3 y2 v13 s12).bind (fun s14 => some ((1 : Int), s14))))
def mj_T_readTerm_68 (x0 : Nat) (x1 : Nat) (x2 : Int) (x3 : Int) (x4 : Int) (σ : pw_Sto) : Option (Int × pw_Sto) := pw_ck x4 0 (if x4 < 0 then some ((0 : Int), σ) else pw_ck x4 (16 : Int) (if x4 < (16 : Int) then (pw_gi 2 x0 3 σ).bind (fun v7 => pw_bd (mf_K_reduce x3 v7 σ) (fun v9 s8 => (pw_ai x1 x4 s8).bind (fun v10 => pw_ck x2 0 (if x2 = 0 then mj_T_readTerm_115 x0 v9 v10 x4 x1 s8 else (pw_gi 2 x0 3 s8).bind (fun v15 => mj_T_readTerm_115 x0 (v15 - v9) v10 x4 x1 s8))))) else some ((0 : Int), σ)))
def mj_T_readTerm_56 (x0 : Nat) (x1 : Nat) (x2 : Int) (x3 : Int) (y0 : Int) (σ : pw_Sto) : Option (Int × pw_Sto) := mj_T_readTerm_68 x0 x1 x2 x3 y0 σ
def mj_T_readTerm_30 (x0 : Nat) (x1 : Nat) (x2 : Int) (x3 : Int) (x4 : Int) (x5 : Int) (σ : pw_Sto) : Option (Int × pw_Sto) := pw_bd (mf_T_took x0 (120 : Int) σ) (fun v6 s5 => pw_ck v6 0 (if v6 = 0 then pw_ck x5 0 (if x5 = 0 then some ((0 : Int), s5) else mj_T_readTerm_68 x0 x1 x2 x3 x4 s5) else pw_bd (mf_T_took x0 (94 : Int) s5) (fun v17 s16 => pw_ck v17 0 (if v17 = 0 then mj_T_readTerm_56 x0 x1 x2 x3 (1 : Int) s16 else pw_bd (mf_T_readExponent x0 s16) (fun v19 s18 => mj_T_readTerm_56 x0 x1 x2 x3 v19 s18)))))
def mf_T_readTerm (x0 : Nat) (x1 : Nat) (x2 : Int) (σ : pw_Sto) : Option (Int × pw_Sto) := pw_gd 2 x0 σ (pw_bd (mf_T_peek x0 σ) (fun v2 s1 => pw_bd (mf_T_isDigit v2 s1) (fun v4 s3 => pw_ck v4 0 (if v4 = 0 then mj_T_readTerm_30 x0 x1 x2 (1 : Int) (0 : Int) v4 s3 else pw_bd (mf_T_readNumber x0 s3) (fun v21 s20 => pw_ck v21 0 (if 0 ≤ v21 then mj_T_readTerm_30 x0 x1 x2 v21 (0 : Int) v4 s20 else some ((0 : Int), s20)))))))
set_option maxHeartbeats 4000000 in
set_option maxRecDepth 20000 in
theorem sj_T_readTerm_115 {X : pw_X Int} (hX : pw_Ok X prog_5_method_5_code "PadeWorkbench$FractionText" mr_T_readTerm 7) (hR : pw_RZ X prog_5_method_5_code) (x0 : Nat) (y0 : Int) (y1 : Int) (y2 : Int) (y3 : Nat) (σ : pw_Sto) : pw_Sp X 0 0 115 [(0, Value.ref x0)] [Value.int (iI y0), Value.int (iI y1), Value.int (iI y2), Value.ref y3] σ (mj_T_readTerm_115 x0 y0 y1 y2 y3 σ) := by
  unfold mj_T_readTerm_115
  refine sp_iadd (pc := 115) hX md_T_readTerm_115 ?_
  refine sp_aload_n (pc := 116) (k := 0) (i := 0) hX rfl 0 rfl md_T_readTerm_116 ?_
  refine sp_getI (pc := 117) (ci := 2) (k := 3) (idx := 25) hX mcl_2 (by decide) mq_157 rfl md_T_readTerm_117 (fun v11 => ?_)
  refine sp_callSI (pc := 120) (y := my_K_reduce) (ccy := prog_3_method_2_code) (nLy := 2) (ret := (some .int)) (rmy := mr_K_reduce) (n := 2) (idx := 62) (As := [.int (iI (y1 + y0)), .int (iI v11)]) (st := [.int (iI y2), .ref y3]) (cells' := 0) (slots' := 0) hX (fun _ h => mc_K_reduce h) mk_K_reduce mq_373 mq_476 ⟨(Nat.le_of_ble_eq_true rfl), (Nat.le_of_ble_eq_true rfl)⟩ rfl rfl (Nat.le_of_ble_eq_true rfl) ⟨(Nat.le_of_ble_eq_true rfl), (Nat.le_of_ble_eq_true rfl)⟩ rfl rfl md_T_readTerm_120 (fun v13 s12 => ?_)
  refine sp_iastore (pc := 123) hX md_T_readTerm_123 (fun s14 => ?_)
  refine sp_iconst (pc := 124) hX md_T_readTerm_124 ?_
  exact sp_zret (pc := 125) hX hR (by decide) rfl (Nat.le_of_ble_eq_true rfl) md_T_readTerm_125
set_option maxHeartbeats 4000000 in
set_option maxRecDepth 20000 in
theorem sj_T_readTerm_68 {X : pw_X Int} (hX : pw_Ok X prog_5_method_5_code "PadeWorkbench$FractionText" mr_T_readTerm 7) (hR : pw_RZ X prog_5_method_5_code) (x0 : Nat) (x1 : Nat) (x2 : Int) (x3 : Int) (x4 : Int) (σ : pw_Sto) : pw_Sp X 0 0 68 [(0, Value.ref x0), (1, Value.ref x1), (2, Value.int (iI x2)), (3, Value.int (iI x3)), (4, Value.int (iI x4))] [] σ (mj_T_readTerm_68 x0 x1 x2 x3 x4 σ) := by
  unfold mj_T_readTerm_68
  refine sp_iload (pc := 68) (i := 4) hX 4 rfl md_T_readTerm_68 ?_
  refine sp_if_lt (pc := 70) hX 80 (by decide) md_T_readTerm_70 (fun _ => ?_) (fun _ => ?_)
  · refine sp_iconst (pc := 80) hX md_T_readTerm_80 ?_
    exact sp_zret (pc := 81) hX hR (by decide) rfl (Nat.le_of_ble_eq_true rfl) md_T_readTerm_81
  · refine sp_iload (pc := 73) (i := 4) hX 4 rfl md_T_readTerm_73 ?_
    refine sp_bipush (pc := 75) hX (by decide) md_T_readTerm_75 ?_
    refine sp_icmp_lt (pc := 77) hX 82 (by decide) md_T_readTerm_77 (fun _ => ?_) (fun _ => ?_)
    · refine sp_iload_n (pc := 82) (k := 3) (i := 3) hX rfl 3 rfl md_T_readTerm_82 ?_
      refine sp_aload_n (pc := 83) (k := 0) (i := 0) hX rfl 0 rfl md_T_readTerm_83 ?_
      refine sp_getI (pc := 84) (ci := 2) (k := 3) (idx := 25) hX mcl_2 (by decide) mq_157 rfl md_T_readTerm_84 (fun v7 => ?_)
      refine sp_callSI (pc := 87) (y := my_K_reduce) (ccy := prog_3_method_2_code) (nLy := 2) (ret := (some .int)) (rmy := mr_K_reduce) (n := 2) (idx := 62) (As := [.int (iI x3), .int (iI v7)]) (st := []) (cells' := 0) (slots' := 0) hX (fun _ h => mc_K_reduce h) mk_K_reduce mq_373 mq_476 ⟨(Nat.le_of_ble_eq_true rfl), (Nat.le_of_ble_eq_true rfl)⟩ rfl rfl (Nat.le_of_ble_eq_true rfl) ⟨(Nat.le_of_ble_eq_true rfl), (Nat.le_of_ble_eq_true rfl)⟩ rfl rfl md_T_readTerm_87 (fun v9 s8 => ?_)
      refine sp_istore (pc := 90) (i := 6) (L' := [(6, Value.int (iI v9)), (0, Value.ref x0), (1, Value.ref x1), (2, Value.int (iI x2)), (3, Value.int (iI x3)), (4, Value.int (iI x4))]) hX (by decide) rfl md_T_readTerm_90 ?_
      refine sp_aload_n (pc := 92) (k := 1) (i := 1) hX rfl 2 rfl md_T_readTerm_92 ?_
      refine sp_iload (pc := 93) (i := 4) hX 5 rfl md_T_readTerm_93 ?_
      refine sp_aload_n (pc := 95) (k := 1) (i := 1) hX rfl 2 rfl md_T_readTerm_95 ?_
      refine sp_iload (pc := 96) (i := 4) hX 5 rfl md_T_readTerm_96 ?_
      refine sp_iaload (pc := 98) hX md_T_readTerm_98 (fun v10 => ?_)
      refine sp_iload_n (pc := 99) (k := 2) (i := 2) hX rfl 3 rfl md_T_readTerm_99 ?_
      refine sp_if_eq (pc := 100) hX 113 (by decide) md_T_readTerm_100 (fun _ => ?_) (fun _ => ?_)
      · refine sp_iload (pc := 113) (i := 6) hX 0 rfl md_T_readTerm_113 ?_
        refine sp_sub [1] (L' := [(0, Value.ref x0)]) rfl ?_
        exact sj_T_readTerm_115 hX hR x0 v9 v10 x4 x1 s8
      · refine sp_aload_n (pc := 103) (k := 0) (i := 0) hX rfl 1 rfl md_T_readTerm_103 ?_
        refine sp_getI (pc := 104) (ci := 2) (k := 3) (idx := 25) hX mcl_2 (by decide) mq_157 rfl md_T_readTerm_104 (fun v15 => ?_)
        refine sp_iload (pc := 107) (i := 6) hX 0 rfl md_T_readTerm_107 ?_
        refine sp_isub (pc := 109) hX md_T_readTerm_109 ?_
        refine sp_goto (pc := 110) hX 115 (by decide) md_T_readTerm_110 ?_
        refine sp_sub [1] (L' := [(0, Value.ref x0)]) rfl ?_
        exact sj_T_readTerm_115 hX hR x0 (v15 - v9) v10 x4 x1 s8
    · refine sp_iconst (pc := 80) hX md_T_readTerm_80 ?_
      exact sp_zret (pc := 81) hX hR (by decide) rfl (Nat.le_of_ble_eq_true rfl) md_T_readTerm_81
set_option maxHeartbeats 4000000 in
set_option maxRecDepth 20000 in
theorem sj_T_readTerm_56 {X : pw_X Int} (hX : pw_Ok X prog_5_method_5_code "PadeWorkbench$FractionText" mr_T_readTerm 7) (hR : pw_RZ X prog_5_method_5_code) (x0 : Nat) (x1 : Nat) (x2 : Int) (x3 : Int) (y0 : Int) (σ : pw_Sto) : pw_Sp X 0 0 56 [(0, Value.ref x0), (1, Value.ref x1), (2, Value.int (iI x2)), (3, Value.int (iI x3))] [Value.int (iI y0)] σ (mj_T_readTerm_56 x0 x1 x2 x3 y0 σ) := by
  unfold mj_T_readTerm_56
  refine sp_istore (pc := 56) (i := 4) (L' := [(4, Value.int (iI y0)), (0, Value.ref x0), (1, Value.ref x1), (2, Value.int (iI x2)), (3, Value.int (iI x3))]) hX (by decide) rfl md_T_readTerm_56 ?_
  refine sp_goto (pc := 58) hX 68 (by decide) md_T_readTerm_58 ?_
  refine sp_sub [1, 2, 3, 4, 0] (L' := [(0, Value.ref x0), (1, Value.ref x1), (2, Value.int (iI x2)), (3, Value.int (iI x3)), (4, Value.int (iI y0))]) rfl ?_
  exact sj_T_readTerm_68 hX hR x0 x1 x2 x3 y0 σ
set_option maxHeartbeats 4000000 in
set_option maxRecDepth 20000 in
theorem sj_T_readTerm_30 {X : pw_X Int} (hX : pw_Ok X prog_5_method_5_code "PadeWorkbench$FractionText" mr_T_readTerm 7) (hR : pw_RZ X prog_5_method_5_code) (x0 : Nat) (x1 : Nat) (x2 : Int) (x3 : Int) (x4 : Int) (x5 : Int) (σ : pw_Sto) : pw_Sp X 0 0 30 [(0, Value.ref x0), (1, Value.ref x1), (2, Value.int (iI x2)), (3, Value.int (iI x3)), (4, Value.int (iI x4)), (5, Value.int (iI x5))] [] σ (mj_T_readTerm_30 x0 x1 x2 x3 x4 x5 σ) := by
  unfold mj_T_readTerm_30
  refine sp_aload_n (pc := 30) (k := 0) (i := 0) hX rfl 0 rfl md_T_readTerm_30 ?_
  refine sp_bipush (pc := 31) hX (by decide) md_T_readTerm_31 ?_
  refine sp_callVI (pc := 33) (y := my_T_took) (ccy := prog_5_method_8_code) (nLy := 2) (ret := (some .boolean)) (rmy := mr_T_took) (n := 1) (idx := 41) (As := [.int (iI (120 : Int))]) (st := []) (o := x0) (cells' := 0) (slots' := 0) hX (fun _ h => mc_T_took h) mk_T_took mv_T_took mcl_2 (fun _ h => pw_gd_of h) mq_449 ⟨(Nat.le_of_ble_eq_true rfl), (Nat.le_of_ble_eq_true rfl)⟩ rfl rfl (Nat.le_of_ble_eq_true rfl) ⟨(Nat.le_of_ble_eq_true rfl), (Nat.le_of_ble_eq_true rfl)⟩ rfl rfl md_T_readTerm_33 (fun v6 s5 => ?_)
  refine sp_if_eq (pc := 36) hX 61 (by decide) md_T_readTerm_36 (fun _ => ?_) (fun _ => ?_)
  · refine sp_iload (pc := 61) (i := 5) hX 5 rfl md_T_readTerm_61 ?_
    refine sp_if_ne (pc := 63) hX 68 (by decide) md_T_readTerm_63 (fun _ => ?_) (fun _ => ?_)
    · refine sp_iconst (pc := 66) hX md_T_readTerm_66 ?_
      exact sp_zret (pc := 67) hX hR (by decide) rfl (Nat.le_of_ble_eq_true rfl) md_T_readTerm_67
    · refine sp_sub [0, 1, 2, 3, 4] (L' := [(0, Value.ref x0), (1, Value.ref x1), (2, Value.int (iI x2)), (3, Value.int (iI x3)), (4, Value.int (iI x4))]) rfl ?_
      exact sj_T_readTerm_68 hX hR x0 x1 x2 x3 x4 s5
  · refine sp_aload_n (pc := 39) (k := 0) (i := 0) hX rfl 0 rfl md_T_readTerm_39 ?_
    refine sp_bipush (pc := 40) hX (by decide) md_T_readTerm_40 ?_
    refine sp_callVI (pc := 42) (y := my_T_took) (ccy := prog_5_method_8_code) (nLy := 2) (ret := (some .boolean)) (rmy := mr_T_took) (n := 1) (idx := 41) (As := [.int (iI (94 : Int))]) (st := []) (o := x0) (cells' := 0) (slots' := 0) hX (fun _ h => mc_T_took h) mk_T_took mv_T_took mcl_2 (fun _ h => pw_gd_of h) mq_449 ⟨(Nat.le_of_ble_eq_true rfl), (Nat.le_of_ble_eq_true rfl)⟩ rfl rfl (Nat.le_of_ble_eq_true rfl) ⟨(Nat.le_of_ble_eq_true rfl), (Nat.le_of_ble_eq_true rfl)⟩ rfl rfl md_T_readTerm_42 (fun v17 s16 => ?_)
    refine sp_if_eq (pc := 45) hX 55 (by decide) md_T_readTerm_45 (fun _ => ?_) (fun _ => ?_)
    · refine sp_iconst (pc := 55) hX md_T_readTerm_55 ?_
      refine sp_sub [0, 1, 2, 3] (L' := [(0, Value.ref x0), (1, Value.ref x1), (2, Value.int (iI x2)), (3, Value.int (iI x3))]) rfl ?_
      exact sj_T_readTerm_56 hX hR x0 x1 x2 x3 (1 : Int) s16
    · refine sp_aload_n (pc := 48) (k := 0) (i := 0) hX rfl 0 rfl md_T_readTerm_48 ?_
      refine sp_callVI (pc := 49) (y := my_T_readExponent) (ccy := prog_5_method_7_code) (nLy := 3) (ret := (some .int)) (rmy := mr_T_readExponent) (n := 0) (idx := 59) (As := []) (st := []) (o := x0) (cells' := 0) (slots' := 0) hX (fun _ h => mc_T_readExponent h) mk_T_readExponent mv_T_readExponent mcl_2 (fun _ h => pw_gd_of h) mq_472 ⟨(Nat.le_of_ble_eq_true rfl), (Nat.le_of_ble_eq_true rfl)⟩ rfl rfl (Nat.le_of_ble_eq_true rfl) ⟨(Nat.le_of_ble_eq_true rfl), (Nat.le_of_ble_eq_true rfl)⟩ rfl rfl md_T_readTerm_49 (fun v19 s18 => ?_)
      refine sp_goto (pc := 52) hX 56 (by decide) md_T_readTerm_52 ?_
      refine sp_sub [0, 1, 2, 3] (L' := [(0, Value.ref x0), (1, Value.ref x1), (2, Value.int (iI x2)), (3, Value.int (iI x3))]) rfl ?_
      exact sj_T_readTerm_56 hX hR x0 x1 x2 x3 v19 s18
set_option maxHeartbeats 4000000 in
set_option maxRecDepth 20000 in
theorem mc_T_readTerm {l : Launch} {E : pw_E} {σ : pw_Sto} {x0 : Nat} {x1 : Nat} {x2 : Int} {out : Int × pw_Sto} (h : mf_T_readTerm x0 x1 x2 σ = some out) : pw_CI l E my_T_readTerm prog_5_method_5_code 7 (some .boolean) mr_T_readTerm [.ref x0, .ref x1, .int (iI x2)] σ out := by
  unfold mf_T_readTerm at h
  refine pw_entryZ (by decide) (Nat.le_of_ble_eq_true rfl) (pw_gd_val h) (fun X hX hR hI => ?_)
  change pw_Ok X prog_5_method_5_code "PadeWorkbench$FractionText" mr_T_readTerm 7 at hX
  show pw_Sp X 0 0 0 [(0, Value.ref x0), (1, Value.ref x1), (2, Value.int (iI x2))] [] σ _
  refine sp_iconst (pc := 0) hX md_T_readTerm_0 ?_
  refine sp_istore_n (pc := 1) (k := 3) (i := 3) (L' := [(3, Value.int (iI (1 : Int))), (0, Value.ref x0), (1, Value.ref x1), (2, Value.int (iI x2))]) hX rfl (by decide) rfl md_T_readTerm_1 ?_
  refine sp_iconst (pc := 2) hX md_T_readTerm_2 ?_
  refine sp_istore (pc := 3) (i := 4) (L' := [(4, Value.int (iI (0 : Int))), (3, Value.int (iI (1 : Int))), (0, Value.ref x0), (1, Value.ref x1), (2, Value.int (iI x2))]) hX (by decide) rfl md_T_readTerm_3 ?_
  refine sp_aload_n (pc := 5) (k := 0) (i := 0) hX rfl 2 rfl md_T_readTerm_5 ?_
  refine sp_callVI (pc := 6) (y := my_T_peek) (ccy := prog_5_method_9_code) (nLy := 1) (ret := (some .int)) (rmy := mr_T_peek) (n := 0) (idx := 45) (As := []) (st := []) (o := x0) (cells' := 0) (slots' := 0) hX (fun _ h => mc_T_peek h) mk_T_peek mv_T_peek mcl_2 (fun _ h => pw_gd_of h) mq_453 ⟨(Nat.le_of_ble_eq_true rfl), (Nat.le_of_ble_eq_true rfl)⟩ rfl rfl (Nat.le_of_ble_eq_true rfl) ⟨(Nat.le_of_ble_eq_true rfl), (Nat.le_of_ble_eq_true rfl)⟩ rfl rfl md_T_readTerm_6 (fun v2 s1 => ?_)
  refine sp_callSI (pc := 9) (y := my_T_isDigit) (ccy := prog_5_method_11_code) (nLy := 1) (ret := (some .boolean)) (rmy := mr_T_isDigit) (n := 1) (idx := 53) (As := [.int (iI v2)]) (st := []) (cells' := 0) (slots' := 0) hX (fun _ h => mc_T_isDigit h) mk_T_isDigit mq_466 mq_465 ⟨(Nat.le_of_ble_eq_true rfl), (Nat.le_of_ble_eq_true rfl)⟩ rfl rfl (Nat.le_of_ble_eq_true rfl) ⟨(Nat.le_of_ble_eq_true rfl), (Nat.le_of_ble_eq_true rfl)⟩ rfl rfl md_T_readTerm_9 (fun v4 s3 => ?_)
  refine sp_istore (pc := 12) (i := 5) (L' := [(5, Value.int (iI v4)), (4, Value.int (iI (0 : Int))), (3, Value.int (iI (1 : Int))), (0, Value.ref x0), (1, Value.ref x1), (2, Value.int (iI x2))]) hX (by decide) rfl md_T_readTerm_12 ?_
  refine sp_iload (pc := 14) (i := 5) hX 0 rfl md_T_readTerm_14 ?_
  refine sp_if_eq (pc := 16) hX 30 (by decide) md_T_readTerm_16 (fun _ => ?_) (fun _ => ?_)
  · refine sp_sub [3, 4, 5, 2, 1, 0] (L' := [(0, Value.ref x0), (1, Value.ref x1), (2, Value.int (iI x2)), (3, Value.int (iI (1 : Int))), (4, Value.int (iI (0 : Int))), (5, Value.int (iI v4))]) rfl ?_
    exact sj_T_readTerm_30 hX hR x0 x1 x2 (1 : Int) (0 : Int) v4 s3
  · refine sp_aload_n (pc := 19) (k := 0) (i := 0) hX rfl 3 rfl md_T_readTerm_19 ?_
    refine sp_callVI (pc := 20) (y := my_T_readNumber) (ccy := prog_5_method_6_code) (nLy := 3) (ret := (some .int)) (rmy := mr_T_readNumber) (n := 0) (idx := 56) (As := []) (st := []) (o := x0) (cells' := 0) (slots' := 0) hX (fun _ h => mc_T_readNumber h) mk_T_readNumber mv_T_readNumber mcl_2 (fun _ h => pw_gd_of h) mq_468 ⟨(Nat.le_of_ble_eq_true rfl), (Nat.le_of_ble_eq_true rfl)⟩ rfl rfl (Nat.le_of_ble_eq_true rfl) ⟨(Nat.le_of_ble_eq_true rfl), (Nat.le_of_ble_eq_true rfl)⟩ rfl rfl md_T_readTerm_20 (fun v21 s20 => ?_)
    refine sp_istore_n (pc := 23) (k := 3) (i := 3) (L' := [(3, Value.int (iI v21)), (5, Value.int (iI v4)), (4, Value.int (iI (0 : Int))), (0, Value.ref x0), (1, Value.ref x1), (2, Value.int (iI x2))]) hX rfl (by decide) rfl md_T_readTerm_23 ?_
    refine sp_iload_n (pc := 24) (k := 3) (i := 3) hX rfl 0 rfl md_T_readTerm_24 ?_
    refine sp_if_ge (pc := 25) hX 30 (by decide) md_T_readTerm_25 (fun _ => ?_) (fun _ => ?_)
    · refine sp_sub [3, 4, 5, 0, 2, 1] (L' := [(0, Value.ref x0), (1, Value.ref x1), (2, Value.int (iI x2)), (3, Value.int (iI v21)), (4, Value.int (iI (0 : Int))), (5, Value.int (iI v4))]) rfl ?_
      exact sj_T_readTerm_30 hX hR x0 x1 x2 v21 (0 : Int) v4 s20
    · refine sp_iconst (pc := 28) hX md_T_readTerm_28 ?_
      exact sp_zret (pc := 29) hX hR (by decide) rfl (Nat.le_of_ble_eq_true rfl) md_T_readTerm_29
/-! PadeWorkbench$FractionText.readPolynomial([I)Z -/
theorem md_T_readPolynomial_0 : decode prog_5_method_4_code 0 = .ok (.aload_n 0, 1) := by decide +kernel
theorem md_T_readPolynomial_1 : decode prog_5_method_4_code 1 = .ok (.bipush 45, 2) := by decide +kernel
theorem md_T_readPolynomial_3 : decode prog_5_method_4_code 3 = .ok (.invokevirtual 41, 3) := by decide +kernel
theorem md_T_readPolynomial_6 : decode prog_5_method_4_code 6 = .ok (.istore_n 2, 1) := by decide +kernel
theorem md_T_readPolynomial_7 : decode prog_5_method_4_code 7 = .ok (.iconst 0, 1) := by decide +kernel
theorem md_T_readPolynomial_8 : decode prog_5_method_4_code 8 = .ok (.istore_n 3, 1) := by decide +kernel
theorem md_T_readPolynomial_9 : decode prog_5_method_4_code 9 = .ok (.iload_n 3, 1) := by decide +kernel
theorem md_T_readPolynomial_10 : decode prog_5_method_4_code 10 = .ok (.bipush 80, 2) := by decide +kernel
theorem md_T_readPolynomial_12 : decode prog_5_method_4_code 12 = .ok (.if_icmp .ge 50, 3) := by decide +kernel
theorem md_T_readPolynomial_62 : decode prog_5_method_4_code 62 = .ok (.iconst 0, 1) := by decide +kernel
theorem md_T_readPolynomial_63 : decode prog_5_method_4_code 63 = .ok (.ireturn, 1) := by decide +kernel
theorem md_T_readPolynomial_15 : decode prog_5_method_4_code 15 = .ok (.aload_n 0, 1) := by decide +kernel
theorem md_T_readPolynomial_16 : decode prog_5_method_4_code 16 = .ok (.aload_n 1, 1) := by decide +kernel
theorem md_T_readPolynomial_17 : decode prog_5_method_4_code 17 = .ok (.iload_n 2, 1) := by decide +kernel
theorem md_T_readPolynomial_18 : decode prog_5_method_4_code 18 = .ok (.invokevirtual 49, 3) := by decide +kernel
theorem md_T_readPolynomial_21 : decode prog_5_method_4_code 21 = .ok (.ifCond .ne 5, 3) := by decide +kernel
theorem md_T_readPolynomial_26 : decode prog_5_method_4_code 26 = .ok (.aload_n 0, 1) := by decide +kernel
theorem md_T_readPolynomial_27 : decode prog_5_method_4_code 27 = .ok (.bipush 43, 2) := by decide +kernel
theorem md_T_readPolynomial_29 : decode prog_5_method_4_code 29 = .ok (.invokevirtual 41, 3) := by decide +kernel
theorem md_T_readPolynomial_32 : decode prog_5_method_4_code 32 = .ok (.ifCond .eq 8, 3) := by decide +kernel
theorem md_T_readPolynomial_40 : decode prog_5_method_4_code 40 = .ok (.aload_n 0, 1) := by decide +kernel
theorem md_T_readPolynomial_41 : decode prog_5_method_4_code 41 = .ok (.bipush 45, 2) := by decide +kernel
theorem md_T_readPolynomial_43 : decode prog_5_method_4_code 43 = .ok (.invokevirtual 41, 3) := by decide +kernel
theorem md_T_readPolynomial_46 : decode prog_5_method_4_code 46 = .ok (.ifCond .eq 8, 3) := by decide +kernel
theorem md_T_readPolynomial_54 : decode prog_5_method_4_code 54 = .ok (.iconst 1, 1) := by decide +kernel
theorem md_T_readPolynomial_55 : decode prog_5_method_4_code 55 = .ok (.ireturn, 1) := by decide +kernel
theorem md_T_readPolynomial_49 : decode prog_5_method_4_code 49 = .ok (.iconst 1, 1) := by decide +kernel
theorem md_T_readPolynomial_50 : decode prog_5_method_4_code 50 = .ok (.istore_n 2, 1) := by decide +kernel
theorem md_T_readPolynomial_51 : decode prog_5_method_4_code 51 = .ok (.goto 5, 3) := by decide +kernel
theorem md_T_readPolynomial_56 : decode prog_5_method_4_code 56 = .ok (.iinc 3 1, 3) := by decide +kernel
theorem md_T_readPolynomial_59 : decode prog_5_method_4_code 59 = .ok (.goto (-50), 3) := by decide +kernel
theorem md_T_readPolynomial_35 : decode prog_5_method_4_code 35 = .ok (.iconst 0, 1) := by decide +kernel
theorem md_T_readPolynomial_36 : decode prog_5_method_4_code 36 = .ok (.istore_n 2, 1) := by decide +kernel
theorem md_T_readPolynomial_37 : decode prog_5_method_4_code 37 = .ok (.goto 19, 3) := by decide +kernel
theorem md_T_readPolynomial_24 : decode prog_5_method_4_code 24 = .ok (.iconst 0, 1) := by decide +kernel
theorem md_T_readPolynomial_25 : decode prog_5_method_4_code 25 = .ok (.ireturn, 1) := by decide +kernel
def mb_T_readPolynomial_9 (rc : Nat → Nat → Int → Int → pw_Sto → Option (Int × pw_Sto)) : Nat → Nat → Int → Int → pw_Sto → Option (Int × pw_Sto) := fun x0 x1 x2 x3 σ => pw_ck x3 (80 : Int) (if (80 : Int) ≤ x3 then some ((0 : Int), σ) else pw_bd (mf_T_readTerm x0 x1 x2 σ) (fun v4 s3 => pw_ck v4 0 (if v4 = 0 then some ((0 : Int), s3) else pw_bd (mf_T_took x0 (43 : Int) s3) (fun v6 s5 => pw_ck v6 0 (if v6 = 0 then pw_bd (mf_T_took x0 (45 : Int) s5) (fun v8 s7 => pw_ck v8 0 (if v8 = 0 then some ((1 : Int), s7) else rc x0 x1 (1 : Int) (x3 + 1) s7)) else rc x0 x1 (0 : Int) (x3 + 1) s5)))))
def ml_T_readPolynomial_9 : Nat → Nat → Nat → Int → Int → pw_Sto → Option (Int × pw_Sto) := pw_lp (fun _ _ _ _ _ => none) (mb_T_readPolynomial_9)
def mf_T_readPolynomial (x0 : Nat) (x1 : Nat) (σ : pw_Sto) : Option (Int × pw_Sto) := pw_gd 2 x0 σ (pw_bd (mf_T_took x0 (45 : Int) σ) (fun v2 s1 => ml_T_readPolynomial_9 1000 x0 x1 v2 (0 : Int) s1))
set_option maxHeartbeats 4000000 in
set_option maxRecDepth 20000 in
theorem sl_T_readPolynomial_9 {X : pw_X Int} (hX : pw_Ok X prog_5_method_4_code "PadeWorkbench$FractionText" mr_T_readPolynomial 4) (hR : pw_RZ X prog_5_method_4_code) : ∀ (n : Nat) (x0 : Nat) (x1 : Nat) (x2 : Int) (x3 : Int) (σ : pw_Sto), pw_Sp X 0 0 9 [(0, Value.ref x0), (1, Value.ref x1), (2, Value.int (iI x2)), (3, Value.int (iI x3))] [] σ (ml_T_readPolynomial_9 n x0 x1 x2 x3 σ) := by
  intro n
  induction n with
  | zero => intros; exact pw_none
  | succ n ih =>
    intro x0 x1 x2 x3 σ
    show pw_Sp X 0 0 9 _ _ σ (mb_T_readPolynomial_9 (ml_T_readPolynomial_9 n) x0 x1 x2 x3 σ)
    unfold mb_T_readPolynomial_9
    refine sp_iload_n (pc := 9) (k := 3) (i := 3) hX rfl 3 rfl md_T_readPolynomial_9 ?_
    refine sp_bipush (pc := 10) hX (by decide) md_T_readPolynomial_10 ?_
    refine sp_icmp_ge (pc := 12) hX 62 (by decide) md_T_readPolynomial_12 (fun _ => ?_) (fun _ => ?_)
    · refine sp_iconst (pc := 62) hX md_T_readPolynomial_62 ?_
      exact sp_zret (pc := 63) hX hR (by decide) rfl (Nat.le_of_ble_eq_true rfl) md_T_readPolynomial_63
    · refine sp_aload_n (pc := 15) (k := 0) (i := 0) hX rfl 0 rfl md_T_readPolynomial_15 ?_
      refine sp_aload_n (pc := 16) (k := 1) (i := 1) hX rfl 1 rfl md_T_readPolynomial_16 ?_
      refine sp_iload_n (pc := 17) (k := 2) (i := 2) hX rfl 2 rfl md_T_readPolynomial_17 ?_
      refine sp_callVI (pc := 18) (y := my_T_readTerm) (ccy := prog_5_method_5_code) (nLy := 7) (ret := (some .boolean)) (rmy := mr_T_readTerm) (n := 2) (idx := 49) (As := [.ref x1, .int (iI x2)]) (st := []) (o := x0) (cells' := 0) (slots' := 0) hX (fun _ h => mc_T_readTerm h) mk_T_readTerm mv_T_readTerm mcl_2 (fun _ h => pw_gd_of h) mq_461 ⟨(Nat.le_of_ble_eq_true rfl), (Nat.le_of_ble_eq_true rfl)⟩ rfl rfl (Nat.le_of_ble_eq_true rfl) ⟨(Nat.le_of_ble_eq_true rfl), (Nat.le_of_ble_eq_true rfl)⟩ rfl rfl md_T_readPolynomial_18 (fun v4 s3 => ?_)
      refine sp_if_ne (pc := 21) hX 26 (by decide) md_T_readPolynomial_21 (fun _ => ?_) (fun _ => ?_)
      · refine sp_iconst (pc := 24) hX md_T_readPolynomial_24 ?_
        exact sp_zret (pc := 25) hX hR (by decide) rfl (Nat.le_of_ble_eq_true rfl) md_T_readPolynomial_25
      · refine sp_aload_n (pc := 26) (k := 0) (i := 0) hX rfl 0 rfl md_T_readPolynomial_26 ?_
        refine sp_bipush (pc := 27) hX (by decide) md_T_readPolynomial_27 ?_
        refine sp_callVI (pc := 29) (y := my_T_took) (ccy := prog_5_method_8_code) (nLy := 2) (ret := (some .boolean)) (rmy := mr_T_took) (n := 1) (idx := 41) (As := [.int (iI (43 : Int))]) (st := []) (o := x0) (cells' := 0) (slots' := 0) hX (fun _ h => mc_T_took h) mk_T_took mv_T_took mcl_2 (fun _ h => pw_gd_of h) mq_449 ⟨(Nat.le_of_ble_eq_true rfl), (Nat.le_of_ble_eq_true rfl)⟩ rfl rfl (Nat.le_of_ble_eq_true rfl) ⟨(Nat.le_of_ble_eq_true rfl), (Nat.le_of_ble_eq_true rfl)⟩ rfl rfl md_T_readPolynomial_29 (fun v6 s5 => ?_)
        refine sp_if_eq (pc := 32) hX 40 (by decide) md_T_readPolynomial_32 (fun _ => ?_) (fun _ => ?_)
        · refine sp_aload_n (pc := 40) (k := 0) (i := 0) hX rfl 0 rfl md_T_readPolynomial_40 ?_
          refine sp_bipush (pc := 41) hX (by decide) md_T_readPolynomial_41 ?_
          refine sp_callVI (pc := 43) (y := my_T_took) (ccy := prog_5_method_8_code) (nLy := 2) (ret := (some .boolean)) (rmy := mr_T_took) (n := 1) (idx := 41) (As := [.int (iI (45 : Int))]) (st := []) (o := x0) (cells' := 0) (slots' := 0) hX (fun _ h => mc_T_took h) mk_T_took mv_T_took mcl_2 (fun _ h => pw_gd_of h) mq_449 ⟨(Nat.le_of_ble_eq_true rfl), (Nat.le_of_ble_eq_true rfl)⟩ rfl rfl (Nat.le_of_ble_eq_true rfl) ⟨(Nat.le_of_ble_eq_true rfl), (Nat.le_of_ble_eq_true rfl)⟩ rfl rfl md_T_readPolynomial_43 (fun v8 s7 => ?_)
          refine sp_if_eq (pc := 46) hX 54 (by decide) md_T_readPolynomial_46 (fun _ => ?_) (fun _ => ?_)
          · refine sp_iconst (pc := 54) hX md_T_readPolynomial_54 ?_
            exact sp_zret (pc := 55) hX hR (by decide) rfl (Nat.le_of_ble_eq_true rfl) md_T_readPolynomial_55
          · refine sp_iconst (pc := 49) hX md_T_readPolynomial_49 ?_
            refine sp_istore_n (pc := 50) (k := 2) (i := 2) (L' := [(2, Value.int (iI (1 : Int))), (0, Value.ref x0), (1, Value.ref x1), (3, Value.int (iI x3))]) hX rfl (by decide) rfl md_T_readPolynomial_50 ?_
            refine sp_goto (pc := 51) hX 56 (by decide) md_T_readPolynomial_51 ?_
            refine sp_iinc (pc := 56) (i := 3) (L' := [(3, Value.int (iI (x3 + 1))), (2, Value.int (iI (1 : Int))), (0, Value.ref x0), (1, Value.ref x1)]) hX 3 rfl (by decide) rfl md_T_readPolynomial_56 ?_
            refine sp_goto (pc := 59) hX 9 (by decide) md_T_readPolynomial_59 ?_
            refine sp_sub [2, 3, 1, 0] (L' := [(0, Value.ref x0), (1, Value.ref x1), (2, Value.int (iI (1 : Int))), (3, Value.int (iI (x3 + 1)))]) rfl ?_
            exact ih x0 x1 (1 : Int) (x3 + 1) s7
        · refine sp_iconst (pc := 35) hX md_T_readPolynomial_35 ?_
          refine sp_istore_n (pc := 36) (k := 2) (i := 2) (L' := [(2, Value.int (iI (0 : Int))), (0, Value.ref x0), (1, Value.ref x1), (3, Value.int (iI x3))]) hX rfl (by decide) rfl md_T_readPolynomial_36 ?_
          refine sp_goto (pc := 37) hX 56 (by decide) md_T_readPolynomial_37 ?_
          refine sp_iinc (pc := 56) (i := 3) (L' := [(3, Value.int (iI (x3 + 1))), (2, Value.int (iI (0 : Int))), (0, Value.ref x0), (1, Value.ref x1)]) hX 3 rfl (by decide) rfl md_T_readPolynomial_56 ?_
          refine sp_goto (pc := 59) hX 9 (by decide) md_T_readPolynomial_59 ?_
          refine sp_sub [2, 3, 1, 0] (L' := [(0, Value.ref x0), (1, Value.ref x1), (2, Value.int (iI (0 : Int))), (3, Value.int (iI (x3 + 1)))]) rfl ?_
          exact ih x0 x1 (0 : Int) (x3 + 1) s5
set_option maxHeartbeats 4000000 in
set_option maxRecDepth 20000 in
theorem mc_T_readPolynomial {l : Launch} {E : pw_E} {σ : pw_Sto} {x0 : Nat} {x1 : Nat} {out : Int × pw_Sto} (h : mf_T_readPolynomial x0 x1 σ = some out) : pw_CI l E my_T_readPolynomial prog_5_method_4_code 4 (some .boolean) mr_T_readPolynomial [.ref x0, .ref x1] σ out := by
  unfold mf_T_readPolynomial at h
  refine pw_entryZ (by decide) (Nat.le_of_ble_eq_true rfl) (pw_gd_val h) (fun X hX hR hI => ?_)
  change pw_Ok X prog_5_method_4_code "PadeWorkbench$FractionText" mr_T_readPolynomial 4 at hX
  show pw_Sp X 0 0 0 [(0, Value.ref x0), (1, Value.ref x1)] [] σ _
  refine sp_aload_n (pc := 0) (k := 0) (i := 0) hX rfl 0 rfl md_T_readPolynomial_0 ?_
  refine sp_bipush (pc := 1) hX (by decide) md_T_readPolynomial_1 ?_
  refine sp_callVI (pc := 3) (y := my_T_took) (ccy := prog_5_method_8_code) (nLy := 2) (ret := (some .boolean)) (rmy := mr_T_took) (n := 1) (idx := 41) (As := [.int (iI (45 : Int))]) (st := []) (o := x0) (cells' := 0) (slots' := 0) hX (fun _ h => mc_T_took h) mk_T_took mv_T_took mcl_2 (fun _ h => pw_gd_of h) mq_449 ⟨(Nat.le_of_ble_eq_true rfl), (Nat.le_of_ble_eq_true rfl)⟩ rfl rfl (Nat.le_of_ble_eq_true rfl) ⟨(Nat.le_of_ble_eq_true rfl), (Nat.le_of_ble_eq_true rfl)⟩ rfl rfl md_T_readPolynomial_3 (fun v2 s1 => ?_)
  refine sp_istore_n (pc := 6) (k := 2) (i := 2) (L' := [(2, Value.int (iI v2)), (0, Value.ref x0), (1, Value.ref x1)]) hX rfl (by decide) rfl md_T_readPolynomial_6 ?_
  refine sp_iconst (pc := 7) hX md_T_readPolynomial_7 ?_
  refine sp_istore_n (pc := 8) (k := 3) (i := 3) (L' := [(3, Value.int (iI (0 : Int))), (2, Value.int (iI v2)), (0, Value.ref x0), (1, Value.ref x1)]) hX rfl (by decide) rfl md_T_readPolynomial_8 ?_
  refine sp_sub [2, 3, 1, 0] (L' := [(0, Value.ref x0), (1, Value.ref x1), (2, Value.int (iI v2)), (3, Value.int (iI (0 : Int)))]) rfl ?_
  exact sl_T_readPolynomial_9 hX hR 1000 x0 x1 v2 (0 : Int) s1
/-! PadeWorkbench$FractionText.readFraction(I)Z -/
theorem md_T_readFraction_0 : decode prog_5_method_3_code 0 = .ok (.aload_n 0, 1) := by decide +kernel
theorem md_T_readFraction_1 : decode prog_5_method_3_code 1 = .ok (.iload_n 1, 1) := by decide +kernel
theorem md_T_readFraction_2 : decode prog_5_method_3_code 2 = .ok (.putfield 25, 3) := by decide +kernel
theorem md_T_readFraction_5 : decode prog_5_method_3_code 5 = .ok (.aload_n 0, 1) := by decide +kernel
theorem md_T_readFraction_6 : decode prog_5_method_3_code 6 = .ok (.iconst 0, 1) := by decide +kernel
theorem md_T_readFraction_7 : decode prog_5_method_3_code 7 = .ok (.putfield 28, 3) := by decide +kernel
theorem md_T_readFraction_10 : decode prog_5_method_3_code 10 = .ok (.aload_n 0, 1) := by decide +kernel
theorem md_T_readFraction_11 : decode prog_5_method_3_code 11 = .ok (.getfield 15, 3) := by decide +kernel
theorem md_T_readFraction_14 : decode prog_5_method_3_code 14 = .ok (.iconst 0, 1) := by decide +kernel
theorem md_T_readFraction_15 : decode prog_5_method_3_code 15 = .ok (.invokestatic 31, 3) := by decide +kernel
theorem md_T_readFraction_18 : decode prog_5_method_3_code 18 = .ok (.aload_n 0, 1) := by decide +kernel
theorem md_T_readFraction_19 : decode prog_5_method_3_code 19 = .ok (.getfield 18, 3) := by decide +kernel
theorem md_T_readFraction_22 : decode prog_5_method_3_code 22 = .ok (.iconst 0, 1) := by decide +kernel
theorem md_T_readFraction_23 : decode prog_5_method_3_code 23 = .ok (.invokestatic 31, 3) := by decide +kernel
theorem md_T_readFraction_26 : decode prog_5_method_3_code 26 = .ok (.aload_n 0, 1) := by decide +kernel
theorem md_T_readFraction_27 : decode prog_5_method_3_code 27 = .ok (.aload_n 0, 1) := by decide +kernel
theorem md_T_readFraction_28 : decode prog_5_method_3_code 28 = .ok (.getfield 15, 3) := by decide +kernel
theorem md_T_readFraction_31 : decode prog_5_method_3_code 31 = .ok (.invokevirtual 37, 3) := by decide +kernel
theorem md_T_readFraction_34 : decode prog_5_method_3_code 34 = .ok (.ifCond .ne 5, 3) := by decide +kernel
theorem md_T_readFraction_39 : decode prog_5_method_3_code 39 = .ok (.aload_n 0, 1) := by decide +kernel
theorem md_T_readFraction_40 : decode prog_5_method_3_code 40 = .ok (.bipush 47, 2) := by decide +kernel
theorem md_T_readFraction_42 : decode prog_5_method_3_code 42 = .ok (.invokevirtual 41, 3) := by decide +kernel
theorem md_T_readFraction_45 : decode prog_5_method_3_code 45 = .ok (.ifCond .ne 13, 3) := by decide +kernel
theorem md_T_readFraction_58 : decode prog_5_method_3_code 58 = .ok (.aload_n 0, 1) := by decide +kernel
theorem md_T_readFraction_59 : decode prog_5_method_3_code 59 = .ok (.aload_n 0, 1) := by decide +kernel
theorem md_T_readFraction_60 : decode prog_5_method_3_code 60 = .ok (.getfield 18, 3) := by decide +kernel
theorem md_T_readFraction_63 : decode prog_5_method_3_code 63 = .ok (.invokevirtual 37, 3) := by decide +kernel
theorem md_T_readFraction_66 : decode prog_5_method_3_code 66 = .ok (.ifCond .ne 5, 3) := by decide +kernel
theorem md_T_readFraction_71 : decode prog_5_method_3_code 71 = .ok (.aload_n 0, 1) := by decide +kernel
theorem md_T_readFraction_72 : decode prog_5_method_3_code 72 = .ok (.invokevirtual 45, 3) := by decide +kernel
theorem md_T_readFraction_75 : decode prog_5_method_3_code 75 = .ok (.iconst (-1), 1) := by decide +kernel
theorem md_T_readFraction_76 : decode prog_5_method_3_code 76 = .ok (.if_icmp .ne 7, 3) := by decide +kernel
theorem md_T_readFraction_83 : decode prog_5_method_3_code 83 = .ok (.iconst 0, 1) := by decide +kernel
theorem md_T_readFraction_84 : decode prog_5_method_3_code 84 = .ok (.ireturn, 1) := by decide +kernel
theorem md_T_readFraction_79 : decode prog_5_method_3_code 79 = .ok (.iconst 1, 1) := by decide +kernel
theorem md_T_readFraction_80 : decode prog_5_method_3_code 80 = .ok (.goto 4, 3) := by decide +kernel
theorem md_T_readFraction_69 : decode prog_5_method_3_code 69 = .ok (.iconst 0, 1) := by decide +kernel
theorem md_T_readFraction_70 : decode prog_5_method_3_code 70 = .ok (.ireturn, 1) := by decide +kernel
theorem md_T_readFraction_48 : decode prog_5_method_3_code 48 = .ok (.aload_n 0, 1) := by decide +kernel
theorem md_T_readFraction_49 : decode prog_5_method_3_code 49 = .ok (.getfield 18, 3) := by decide +kernel
theorem md_T_readFraction_52 : decode prog_5_method_3_code 52 = .ok (.iconst 0, 1) := by decide +kernel
theorem md_T_readFraction_53 : decode prog_5_method_3_code 53 = .ok (.iconst 1, 1) := by decide +kernel
theorem md_T_readFraction_54 : decode prog_5_method_3_code 54 = .ok (.iastore, 1) := by decide +kernel
theorem md_T_readFraction_55 : decode prog_5_method_3_code 55 = .ok (.goto 16, 3) := by decide +kernel
theorem md_T_readFraction_37 : decode prog_5_method_3_code 37 = .ok (.iconst 0, 1) := by decide +kernel
theorem md_T_readFraction_38 : decode prog_5_method_3_code 38 = .ok (.ireturn, 1) := by decide +kernel
def mj_T_readFraction_71 (x0 : Nat) (σ : pw_Sto) : Option (Int × pw_Sto) := pw_bd (mf_T_peek x0 σ) (fun v16 s15 => pw_ck v16 (-1 : Int) (if v16 = (-1 : Int) then some ((1 : Int), s15) else some ((0 : Int), s15)))
def mf_T_readFraction (x0 : Nat) (x1 : Int) (σ : pw_Sto) : Option (Int × pw_Sto) := pw_gd 2 x0 σ ((pw_pi 2 x0 3 x1 σ).bind (fun s1 => (pw_pi 2 x0 2 (0 : Int) s1).bind (fun s2 => (pw_gr 2 x0 4 s2).bind (fun v3 => pw_bd (mf_A_fill v3 (0 : Int) s2) (fun _ s4 => (pw_gr 2 x0 5 s4).bind (fun v5 => pw_bd (mf_A_fill v5 (0 : Int) s4) (fun _ s6 => (pw_gr 2 x0 4 s6).bind (fun v7 => pw_bd (mf_T_readPolynomial x0 v7 s6) (fun v9 s8 => pw_ck v9 0 (if v9 = 0 then some ((0 : Int), s8) else pw_bd (mf_T_took x0 (47 : Int) s8) (fun v11 s10 => pw_ck v11 0 (if v11 = 0 then (pw_gr 2 x0 5 s10).bind (fun v17 => (pw_si v17 (0 : Int) (1 : Int) s10).bind (fun s18 => mj_T_readFraction_71 x0 s18)) else (pw_gr 2 x0 5 s10).bind (fun v12 => pw_bd (mf_T_readPolynomial x0 v12 s10) (fun v14 s13 => pw_ck v14 0 (if v14 = 0 then some ((0 : Int), s13) else mj_T_readFraction_71 x0 s13)))))))))))))))
set_option maxHeartbeats 4000000 in
set_option maxRecDepth 20000 in
theorem sj_T_readFraction_71 {X : pw_X Int} (hX : pw_Ok X prog_5_method_3_code "PadeWorkbench$FractionText" mr_T_readFraction 2) (hR : pw_RZ X prog_5_method_3_code) (x0 : Nat) (σ : pw_Sto) : pw_Sp X 0 0 71 [(0, Value.ref x0)] [] σ (mj_T_readFraction_71 x0 σ) := by
  unfold mj_T_readFraction_71
  refine sp_aload_n (pc := 71) (k := 0) (i := 0) hX rfl 0 rfl md_T_readFraction_71 ?_
  refine sp_callVI (pc := 72) (y := my_T_peek) (ccy := prog_5_method_9_code) (nLy := 1) (ret := (some .int)) (rmy := mr_T_peek) (n := 0) (idx := 45) (As := []) (st := []) (o := x0) (cells' := 0) (slots' := 0) hX (fun _ h => mc_T_peek h) mk_T_peek mv_T_peek mcl_2 (fun _ h => pw_gd_of h) mq_453 ⟨(Nat.le_of_ble_eq_true rfl), (Nat.le_of_ble_eq_true rfl)⟩ rfl rfl (Nat.le_of_ble_eq_true rfl) ⟨(Nat.le_of_ble_eq_true rfl), (Nat.le_of_ble_eq_true rfl)⟩ rfl rfl md_T_readFraction_72 (fun v16 s15 => ?_)
  refine sp_iconst (pc := 75) hX md_T_readFraction_75 ?_
  refine sp_icmp_ne (pc := 76) hX 83 (by decide) md_T_readFraction_76 (fun _ => ?_) (fun _ => ?_)
  · refine sp_iconst (pc := 79) hX md_T_readFraction_79 ?_
    refine sp_goto (pc := 80) hX 84 (by decide) md_T_readFraction_80 ?_
    exact sp_zret (pc := 84) hX hR (by decide) rfl (Nat.le_of_ble_eq_true rfl) md_T_readFraction_84
  · refine sp_iconst (pc := 83) hX md_T_readFraction_83 ?_
    exact sp_zret (pc := 84) hX hR (by decide) rfl (Nat.le_of_ble_eq_true rfl) md_T_readFraction_84
set_option maxHeartbeats 4000000 in
set_option maxRecDepth 20000 in
theorem mc_T_readFraction {l : Launch} {E : pw_E} {σ : pw_Sto} {x0 : Nat} {x1 : Int} {out : Int × pw_Sto} (h : mf_T_readFraction x0 x1 σ = some out) : pw_CI l E my_T_readFraction prog_5_method_3_code 2 (some .boolean) mr_T_readFraction [.ref x0, .int (iI x1)] σ out := by
  unfold mf_T_readFraction at h
  refine pw_entryZ (by decide) (Nat.le_of_ble_eq_true rfl) (pw_gd_val h) (fun X hX hR hI => ?_)
  change pw_Ok X prog_5_method_3_code "PadeWorkbench$FractionText" mr_T_readFraction 2 at hX
  show pw_Sp X 0 0 0 [(0, Value.ref x0), (1, Value.int (iI x1))] [] σ _
  refine sp_aload_n (pc := 0) (k := 0) (i := 0) hX rfl 0 rfl md_T_readFraction_0 ?_
  refine sp_iload_n (pc := 1) (k := 1) (i := 1) hX rfl 1 rfl md_T_readFraction_1 ?_
  refine sp_putI (pc := 2) (ci := 2) (k := 3) (idx := 25) hX mcl_2 (by decide) mq_157 rfl rfl rfl md_T_readFraction_2 (fun s1 => ?_)
  refine sp_aload_n (pc := 5) (k := 0) (i := 0) hX rfl 0 rfl md_T_readFraction_5 ?_
  refine sp_iconst (pc := 6) hX md_T_readFraction_6 ?_
  refine sp_putI (pc := 7) (ci := 2) (k := 2) (idx := 28) hX mcl_2 (by decide) mq_155 rfl rfl rfl md_T_readFraction_7 (fun s2 => ?_)
  refine sp_aload_n (pc := 10) (k := 0) (i := 0) hX rfl 0 rfl md_T_readFraction_10 ?_
  refine sp_getR (pc := 11) (ci := 2) (k := 4) (idx := 15) hX mcl_2 (by decide) mq_158 rfl md_T_readFraction_11 (fun v3 => ?_)
  refine sp_iconst (pc := 14) hX md_T_readFraction_14 ?_
  refine sp_callSV (pc := 15) (y := my_A_fill) (ccy := prog_16_method_103_code) (nLy := 4) (ret := none) (rmy := mr_A_fill) (n := 2) (idx := 31) (As := [.ref v3, .int (iI (0 : Int))]) (st := []) (cells' := 0) (slots' := 0) hX (fun _ h => mc_A_fill h) mk_A_fill mq_345 mq_444 ⟨(Nat.le_of_ble_eq_true rfl), (Nat.le_of_ble_eq_true rfl)⟩ rfl rfl (Nat.le_of_ble_eq_true rfl) ⟨(Nat.le_of_ble_eq_true rfl), (Nat.le_of_ble_eq_true rfl)⟩ rfl rfl md_T_readFraction_15 (fun s4 => ?_)
  refine sp_aload_n (pc := 18) (k := 0) (i := 0) hX rfl 0 rfl md_T_readFraction_18 ?_
  refine sp_getR (pc := 19) (ci := 2) (k := 5) (idx := 18) hX mcl_2 (by decide) mq_160 rfl md_T_readFraction_19 (fun v5 => ?_)
  refine sp_iconst (pc := 22) hX md_T_readFraction_22 ?_
  refine sp_callSV (pc := 23) (y := my_A_fill) (ccy := prog_16_method_103_code) (nLy := 4) (ret := none) (rmy := mr_A_fill) (n := 2) (idx := 31) (As := [.ref v5, .int (iI (0 : Int))]) (st := []) (cells' := 0) (slots' := 0) hX (fun _ h => mc_A_fill h) mk_A_fill mq_345 mq_444 ⟨(Nat.le_of_ble_eq_true rfl), (Nat.le_of_ble_eq_true rfl)⟩ rfl rfl (Nat.le_of_ble_eq_true rfl) ⟨(Nat.le_of_ble_eq_true rfl), (Nat.le_of_ble_eq_true rfl)⟩ rfl rfl md_T_readFraction_23 (fun s6 => ?_)
  refine sp_aload_n (pc := 26) (k := 0) (i := 0) hX rfl 0 rfl md_T_readFraction_26 ?_
  refine sp_aload_n (pc := 27) (k := 0) (i := 0) hX rfl 0 rfl md_T_readFraction_27 ?_
  refine sp_getR (pc := 28) (ci := 2) (k := 4) (idx := 15) hX mcl_2 (by decide) mq_158 rfl md_T_readFraction_28 (fun v7 => ?_)
  refine sp_callVI (pc := 31) (y := my_T_readPolynomial) (ccy := prog_5_method_4_code) (nLy := 4) (ret := (some .boolean)) (rmy := mr_T_readPolynomial) (n := 1) (idx := 37) (As := [.ref v7]) (st := []) (o := x0) (cells' := 0) (slots' := 0) hX (fun _ h => mc_T_readPolynomial h) mk_T_readPolynomial mv_T_readPolynomial mcl_2 (fun _ h => pw_gd_of h) mq_445 ⟨(Nat.le_of_ble_eq_true rfl), (Nat.le_of_ble_eq_true rfl)⟩ rfl rfl (Nat.le_of_ble_eq_true rfl) ⟨(Nat.le_of_ble_eq_true rfl), (Nat.le_of_ble_eq_true rfl)⟩ rfl rfl md_T_readFraction_31 (fun v9 s8 => ?_)
  refine sp_if_ne (pc := 34) hX 39 (by decide) md_T_readFraction_34 (fun _ => ?_) (fun _ => ?_)
  · refine sp_iconst (pc := 37) hX md_T_readFraction_37 ?_
    exact sp_zret (pc := 38) hX hR (by decide) rfl (Nat.le_of_ble_eq_true rfl) md_T_readFraction_38
  · refine sp_aload_n (pc := 39) (k := 0) (i := 0) hX rfl 0 rfl md_T_readFraction_39 ?_
    refine sp_bipush (pc := 40) hX (by decide) md_T_readFraction_40 ?_
    refine sp_callVI (pc := 42) (y := my_T_took) (ccy := prog_5_method_8_code) (nLy := 2) (ret := (some .boolean)) (rmy := mr_T_took) (n := 1) (idx := 41) (As := [.int (iI (47 : Int))]) (st := []) (o := x0) (cells' := 0) (slots' := 0) hX (fun _ h => mc_T_took h) mk_T_took mv_T_took mcl_2 (fun _ h => pw_gd_of h) mq_449 ⟨(Nat.le_of_ble_eq_true rfl), (Nat.le_of_ble_eq_true rfl)⟩ rfl rfl (Nat.le_of_ble_eq_true rfl) ⟨(Nat.le_of_ble_eq_true rfl), (Nat.le_of_ble_eq_true rfl)⟩ rfl rfl md_T_readFraction_42 (fun v11 s10 => ?_)
    refine sp_if_ne (pc := 45) hX 58 (by decide) md_T_readFraction_45 (fun _ => ?_) (fun _ => ?_)
    · refine sp_aload_n (pc := 48) (k := 0) (i := 0) hX rfl 0 rfl md_T_readFraction_48 ?_
      refine sp_getR (pc := 49) (ci := 2) (k := 5) (idx := 18) hX mcl_2 (by decide) mq_160 rfl md_T_readFraction_49 (fun v17 => ?_)
      refine sp_iconst (pc := 52) hX md_T_readFraction_52 ?_
      refine sp_iconst (pc := 53) hX md_T_readFraction_53 ?_
      refine sp_iastore (pc := 54) hX md_T_readFraction_54 (fun s18 => ?_)
      refine sp_goto (pc := 55) hX 71 (by decide) md_T_readFraction_55 ?_
      refine sp_sub [0] (L' := [(0, Value.ref x0)]) rfl ?_
      exact sj_T_readFraction_71 hX hR x0 s18
    · refine sp_aload_n (pc := 58) (k := 0) (i := 0) hX rfl 0 rfl md_T_readFraction_58 ?_
      refine sp_aload_n (pc := 59) (k := 0) (i := 0) hX rfl 0 rfl md_T_readFraction_59 ?_
      refine sp_getR (pc := 60) (ci := 2) (k := 5) (idx := 18) hX mcl_2 (by decide) mq_160 rfl md_T_readFraction_60 (fun v12 => ?_)
      refine sp_callVI (pc := 63) (y := my_T_readPolynomial) (ccy := prog_5_method_4_code) (nLy := 4) (ret := (some .boolean)) (rmy := mr_T_readPolynomial) (n := 1) (idx := 37) (As := [.ref v12]) (st := []) (o := x0) (cells' := 0) (slots' := 0) hX (fun _ h => mc_T_readPolynomial h) mk_T_readPolynomial mv_T_readPolynomial mcl_2 (fun _ h => pw_gd_of h) mq_445 ⟨(Nat.le_of_ble_eq_true rfl), (Nat.le_of_ble_eq_true rfl)⟩ rfl rfl (Nat.le_of_ble_eq_true rfl) ⟨(Nat.le_of_ble_eq_true rfl), (Nat.le_of_ble_eq_true rfl)⟩ rfl rfl md_T_readFraction_63 (fun v14 s13 => ?_)
      refine sp_if_ne (pc := 66) hX 71 (by decide) md_T_readFraction_66 (fun _ => ?_) (fun _ => ?_)
      · refine sp_iconst (pc := 69) hX md_T_readFraction_69 ?_
        exact sp_zret (pc := 70) hX hR (by decide) rfl (Nat.le_of_ble_eq_true rfl) md_T_readFraction_70
      · refine sp_sub [0] (L' := [(0, Value.ref x0)]) rfl ?_
        exact sj_T_readFraction_71 hX hR x0 s13
/-! PadeWorkbench$State.hasPointAt(I)Z -/
theorem md_Z_hasPointAt_0 : decode prog_11_method_4_code 0 = .ok (.iconst 0, 1) := by decide +kernel
theorem md_Z_hasPointAt_1 : decode prog_11_method_4_code 1 = .ok (.istore_n 2, 1) := by decide +kernel
theorem md_Z_hasPointAt_2 : decode prog_11_method_4_code 2 = .ok (.iload_n 2, 1) := by decide +kernel
theorem md_Z_hasPointAt_3 : decode prog_11_method_4_code 3 = .ok (.aload_n 0, 1) := by decide +kernel
theorem md_Z_hasPointAt_4 : decode prog_11_method_4_code 4 = .ok (.getfield 33, 3) := by decide +kernel
theorem md_Z_hasPointAt_7 : decode prog_11_method_4_code 7 = .ok (.if_icmp .ge 27, 3) := by decide +kernel
theorem md_Z_hasPointAt_34 : decode prog_11_method_4_code 34 = .ok (.iconst 0, 1) := by decide +kernel
theorem md_Z_hasPointAt_35 : decode prog_11_method_4_code 35 = .ok (.ireturn, 1) := by decide +kernel
theorem md_Z_hasPointAt_10 : decode prog_11_method_4_code 10 = .ok (.iload_n 2, 1) := by decide +kernel
theorem md_Z_hasPointAt_11 : decode prog_11_method_4_code 11 = .ok (.bipush 10, 2) := by decide +kernel
theorem md_Z_hasPointAt_13 : decode prog_11_method_4_code 13 = .ok (.if_icmp .ge 21, 3) := by decide +kernel
theorem md_Z_hasPointAt_16 : decode prog_11_method_4_code 16 = .ok (.aload_n 0, 1) := by decide +kernel
theorem md_Z_hasPointAt_17 : decode prog_11_method_4_code 17 = .ok (.getfield 20, 3) := by decide +kernel
theorem md_Z_hasPointAt_20 : decode prog_11_method_4_code 20 = .ok (.iload_n 2, 1) := by decide +kernel
theorem md_Z_hasPointAt_21 : decode prog_11_method_4_code 21 = .ok (.iaload, 1) := by decide +kernel
theorem md_Z_hasPointAt_22 : decode prog_11_method_4_code 22 = .ok (.iload_n 1, 1) := by decide +kernel
theorem md_Z_hasPointAt_23 : decode prog_11_method_4_code 23 = .ok (.if_icmp .ne 5, 3) := by decide +kernel
theorem md_Z_hasPointAt_28 : decode prog_11_method_4_code 28 = .ok (.iinc 2 1, 3) := by decide +kernel
theorem md_Z_hasPointAt_31 : decode prog_11_method_4_code 31 = .ok (.goto (-29), 3) := by decide +kernel
theorem md_Z_hasPointAt_26 : decode prog_11_method_4_code 26 = .ok (.iconst 1, 1) := by decide +kernel
theorem md_Z_hasPointAt_27 : decode prog_11_method_4_code 27 = .ok (.ireturn, 1) := by decide +kernel
def mb_Z_hasPointAt_2 (rc : Nat → Int → Int → pw_Sto → Option (Int × pw_Sto)) : Nat → Int → Int → pw_Sto → Option (Int × pw_Sto) := fun x0 x1 x2 σ => (pw_gi 7 x0 2 σ).bind (fun v1 => pw_ck x2 v1 (if v1 ≤ x2 then some ((0 : Int), σ) else pw_ck x2 (10 : Int) (if (10 : Int) ≤ x2 then some ((0 : Int), σ) else (pw_gr 7 x0 3 σ).bind (fun v2 => (pw_ai v2 x2 σ).bind (fun v3 => pw_ck v3 x1 (if v3 = x1 then some ((1 : Int), σ) else rc x0 x1 (x2 + 1) σ))))))
def ml_Z_hasPointAt_2 : Nat → Nat → Int → Int → pw_Sto → Option (Int × pw_Sto) := pw_lp (fun _ _ _ _ => none) (mb_Z_hasPointAt_2)
def mf_Z_hasPointAt (x0 : Nat) (x1 : Int) (σ : pw_Sto) : Option (Int × pw_Sto) := pw_gd 7 x0 σ (ml_Z_hasPointAt_2 1000 x0 x1 (0 : Int) σ)
set_option maxHeartbeats 4000000 in
set_option maxRecDepth 20000 in
theorem sl_Z_hasPointAt_2 {X : pw_X Int} (hX : pw_Ok X prog_11_method_4_code "PadeWorkbench$State" mr_Z_hasPointAt 3) (hR : pw_RZ X prog_11_method_4_code) : ∀ (n : Nat) (x0 : Nat) (x1 : Int) (x2 : Int) (σ : pw_Sto), pw_Sp X 0 0 2 [(0, Value.ref x0), (1, Value.int (iI x1)), (2, Value.int (iI x2))] [] σ (ml_Z_hasPointAt_2 n x0 x1 x2 σ) := by
  intro n
  induction n with
  | zero => intros; exact pw_none
  | succ n ih =>
    intro x0 x1 x2 σ
    show pw_Sp X 0 0 2 _ _ σ (mb_Z_hasPointAt_2 (ml_Z_hasPointAt_2 n) x0 x1 x2 σ)
    unfold mb_Z_hasPointAt_2
    refine sp_iload_n (pc := 2) (k := 2) (i := 2) hX rfl 2 rfl md_Z_hasPointAt_2 ?_
    refine sp_aload_n (pc := 3) (k := 0) (i := 0) hX rfl 0 rfl md_Z_hasPointAt_3 ?_
    refine sp_getI (pc := 4) (ci := 7) (k := 2) (idx := 33) hX mcl_7 (by decide) mq_105 rfl md_Z_hasPointAt_4 (fun v1 => ?_)
    refine sp_icmp_ge (pc := 7) hX 34 (by decide) md_Z_hasPointAt_7 (fun _ => ?_) (fun _ => ?_)
    · refine sp_iconst (pc := 34) hX md_Z_hasPointAt_34 ?_
      exact sp_zret (pc := 35) hX hR (by decide) rfl (Nat.le_of_ble_eq_true rfl) md_Z_hasPointAt_35
    · refine sp_iload_n (pc := 10) (k := 2) (i := 2) hX rfl 2 rfl md_Z_hasPointAt_10 ?_
      refine sp_bipush (pc := 11) hX (by decide) md_Z_hasPointAt_11 ?_
      refine sp_icmp_ge (pc := 13) hX 34 (by decide) md_Z_hasPointAt_13 (fun _ => ?_) (fun _ => ?_)
      · refine sp_iconst (pc := 34) hX md_Z_hasPointAt_34 ?_
        exact sp_zret (pc := 35) hX hR (by decide) rfl (Nat.le_of_ble_eq_true rfl) md_Z_hasPointAt_35
      · refine sp_aload_n (pc := 16) (k := 0) (i := 0) hX rfl 0 rfl md_Z_hasPointAt_16 ?_
        refine sp_getR (pc := 17) (ci := 7) (k := 3) (idx := 20) hX mcl_7 (by decide) mq_108 rfl md_Z_hasPointAt_17 (fun v2 => ?_)
        refine sp_iload_n (pc := 20) (k := 2) (i := 2) hX rfl 2 rfl md_Z_hasPointAt_20 ?_
        refine sp_iaload (pc := 21) hX md_Z_hasPointAt_21 (fun v3 => ?_)
        refine sp_iload_n (pc := 22) (k := 1) (i := 1) hX rfl 1 rfl md_Z_hasPointAt_22 ?_
        refine sp_icmp_ne (pc := 23) hX 28 (by decide) md_Z_hasPointAt_23 (fun _ => ?_) (fun _ => ?_)
        · refine sp_iconst (pc := 26) hX md_Z_hasPointAt_26 ?_
          exact sp_zret (pc := 27) hX hR (by decide) rfl (Nat.le_of_ble_eq_true rfl) md_Z_hasPointAt_27
        · refine sp_iinc (pc := 28) (i := 2) (L' := [(2, Value.int (iI (x2 + 1))), (0, Value.ref x0), (1, Value.int (iI x1))]) hX 2 rfl (by decide) rfl md_Z_hasPointAt_28 ?_
          refine sp_goto (pc := 31) hX 2 (by decide) md_Z_hasPointAt_31 ?_
          refine sp_sub [1, 2, 0] (L' := [(0, Value.ref x0), (1, Value.int (iI x1)), (2, Value.int (iI (x2 + 1)))]) rfl ?_
          exact ih x0 x1 (x2 + 1) σ
set_option maxHeartbeats 4000000 in
set_option maxRecDepth 20000 in
theorem mc_Z_hasPointAt {l : Launch} {E : pw_E} {σ : pw_Sto} {x0 : Nat} {x1 : Int} {out : Int × pw_Sto} (h : mf_Z_hasPointAt x0 x1 σ = some out) : pw_CI l E my_Z_hasPointAt prog_11_method_4_code 3 (some .boolean) mr_Z_hasPointAt [.ref x0, .int (iI x1)] σ out := by
  unfold mf_Z_hasPointAt at h
  refine pw_entryZ (by decide) (Nat.le_of_ble_eq_true rfl) (pw_gd_val h) (fun X hX hR hI => ?_)
  change pw_Ok X prog_11_method_4_code "PadeWorkbench$State" mr_Z_hasPointAt 3 at hX
  show pw_Sp X 0 0 0 [(0, Value.ref x0), (1, Value.int (iI x1))] [] σ _
  refine sp_iconst (pc := 0) hX md_Z_hasPointAt_0 ?_
  refine sp_istore_n (pc := 1) (k := 2) (i := 2) (L' := [(2, Value.int (iI (0 : Int))), (0, Value.ref x0), (1, Value.int (iI x1))]) hX rfl (by decide) rfl md_Z_hasPointAt_1 ?_
  refine sp_sub [1, 2, 0] (L' := [(0, Value.ref x0), (1, Value.int (iI x1)), (2, Value.int (iI (0 : Int)))]) rfl ?_
  exact sl_Z_hasPointAt_2 hX hR 1000 x0 x1 (0 : Int) σ
/-! PadeWorkbench$State.putPoint(II)V -/
theorem md_Z_putPoint_0 : decode prog_11_method_5_code 0 = .ok (.aload_n 0, 1) := by decide +kernel
theorem md_Z_putPoint_1 : decode prog_11_method_5_code 1 = .ok (.getfield 33, 3) := by decide +kernel
theorem md_Z_putPoint_4 : decode prog_11_method_5_code 4 = .ok (.bipush 10, 2) := by decide +kernel
theorem md_Z_putPoint_6 : decode prog_11_method_5_code 6 = .ok (.if_icmp .ge 33, 3) := by decide +kernel
theorem md_Z_putPoint_39 : decode prog_11_method_5_code 39 = .ok (.return_, 1) := by decide +kernel
theorem md_Z_putPoint_9 : decode prog_11_method_5_code 9 = .ok (.aload_n 0, 1) := by decide +kernel
theorem md_Z_putPoint_10 : decode prog_11_method_5_code 10 = .ok (.getfield 20, 3) := by decide +kernel
theorem md_Z_putPoint_13 : decode prog_11_method_5_code 13 = .ok (.aload_n 0, 1) := by decide +kernel
theorem md_Z_putPoint_14 : decode prog_11_method_5_code 14 = .ok (.getfield 33, 3) := by decide +kernel
theorem md_Z_putPoint_17 : decode prog_11_method_5_code 17 = .ok (.iload_n 1, 1) := by decide +kernel
theorem md_Z_putPoint_18 : decode prog_11_method_5_code 18 = .ok (.iastore, 1) := by decide +kernel
theorem md_Z_putPoint_19 : decode prog_11_method_5_code 19 = .ok (.aload_n 0, 1) := by decide +kernel
theorem md_Z_putPoint_20 : decode prog_11_method_5_code 20 = .ok (.getfield 24, 3) := by decide +kernel
theorem md_Z_putPoint_23 : decode prog_11_method_5_code 23 = .ok (.aload_n 0, 1) := by decide +kernel
theorem md_Z_putPoint_24 : decode prog_11_method_5_code 24 = .ok (.getfield 33, 3) := by decide +kernel
theorem md_Z_putPoint_27 : decode prog_11_method_5_code 27 = .ok (.iload_n 2, 1) := by decide +kernel
theorem md_Z_putPoint_28 : decode prog_11_method_5_code 28 = .ok (.iastore, 1) := by decide +kernel
theorem md_Z_putPoint_29 : decode prog_11_method_5_code 29 = .ok (.aload_n 0, 1) := by decide +kernel
theorem md_Z_putPoint_30 : decode prog_11_method_5_code 30 = .ok (.dup, 1) := by decide +kernel
theorem md_Z_putPoint_31 : decode prog_11_method_5_code 31 = .ok (.getfield 33, 3) := by decide +kernel
theorem md_Z_putPoint_34 : decode prog_11_method_5_code 34 = .ok (.iconst 1, 1) := by decide +kernel
theorem md_Z_putPoint_35 : decode prog_11_method_5_code 35 = .ok (.iadd, 1) := by decide +kernel
theorem md_Z_putPoint_36 : decode prog_11_method_5_code 36 = .ok (.putfield 33, 3) := by decide +kernel
def mf_Z_putPoint (x0 : Nat) (x1 : Int) (x2 : Int) (σ : pw_Sto) : Option (Unit × pw_Sto) := pw_gd 7 x0 σ ((pw_gi 7 x0 2 σ).bind (fun v1 => pw_ck v1 (10 : Int) (if (10 : Int) ≤ v1 then some ((), σ) else (pw_gr 7 x0 3 σ).bind (fun v2 => (pw_gi 7 x0 2 σ).bind (fun v3 => (pw_si v2 v3 x1 σ).bind (fun s4 => (pw_gr 7 x0 4 s4).bind (fun v5 => (pw_gi 7 x0 2 s4).bind (fun v6 => (pw_si v5 v6 x2 s4).bind (fun s7 => (pw_gi 7 x0 2 s7).bind (fun v8 => (pw_pi 7 x0 2 (v8 + (1 : Int)) s7).bind (fun s9 => some ((), s9))))))))))))
set_option maxHeartbeats 4000000 in
set_option maxRecDepth 20000 in
theorem mc_Z_putPoint {l : Launch} {E : pw_E} {σ : pw_Sto} {x0 : Nat} {x1 : Int} {x2 : Int} {out : Unit × pw_Sto} (h : mf_Z_putPoint x0 x1 x2 σ = some out) : pw_CV l E my_Z_putPoint prog_11_method_5_code 3 none mr_Z_putPoint [.ref x0, .int (iI x1), .int (iI x2)] σ out := by
  unfold mf_Z_putPoint at h
  refine pw_entryV (by decide) (Nat.le_of_ble_eq_true rfl) (pw_gd_val h) (fun X hX hR hI => ?_)
  change pw_Ok X prog_11_method_5_code "PadeWorkbench$State" mr_Z_putPoint 3 at hX
  show pw_Sp X 0 0 0 [(0, Value.ref x0), (1, Value.int (iI x1)), (2, Value.int (iI x2))] [] σ _
  refine sp_aload_n (pc := 0) (k := 0) (i := 0) hX rfl 0 rfl md_Z_putPoint_0 ?_
  refine sp_getI (pc := 1) (ci := 7) (k := 2) (idx := 33) hX mcl_7 (by decide) mq_105 rfl md_Z_putPoint_1 (fun v1 => ?_)
  refine sp_bipush (pc := 4) hX (by decide) md_Z_putPoint_4 ?_
  refine sp_icmp_ge (pc := 6) hX 39 (by decide) md_Z_putPoint_6 (fun _ => ?_) (fun _ => ?_)
  · exact sp_vret (pc := 39) hX hR rfl (Nat.le_of_ble_eq_true rfl) md_Z_putPoint_39
  · refine sp_aload_n (pc := 9) (k := 0) (i := 0) hX rfl 0 rfl md_Z_putPoint_9 ?_
    refine sp_getR (pc := 10) (ci := 7) (k := 3) (idx := 20) hX mcl_7 (by decide) mq_108 rfl md_Z_putPoint_10 (fun v2 => ?_)
    refine sp_aload_n (pc := 13) (k := 0) (i := 0) hX rfl 0 rfl md_Z_putPoint_13 ?_
    refine sp_getI (pc := 14) (ci := 7) (k := 2) (idx := 33) hX mcl_7 (by decide) mq_105 rfl md_Z_putPoint_14 (fun v3 => ?_)
    refine sp_iload_n (pc := 17) (k := 1) (i := 1) hX rfl 1 rfl md_Z_putPoint_17 ?_
    refine sp_iastore (pc := 18) hX md_Z_putPoint_18 (fun s4 => ?_)
    refine sp_aload_n (pc := 19) (k := 0) (i := 0) hX rfl 0 rfl md_Z_putPoint_19 ?_
    refine sp_getR (pc := 20) (ci := 7) (k := 4) (idx := 24) hX mcl_7 (by decide) mq_111 rfl md_Z_putPoint_20 (fun v5 => ?_)
    refine sp_aload_n (pc := 23) (k := 0) (i := 0) hX rfl 0 rfl md_Z_putPoint_23 ?_
    refine sp_getI (pc := 24) (ci := 7) (k := 2) (idx := 33) hX mcl_7 (by decide) mq_105 rfl md_Z_putPoint_24 (fun v6 => ?_)
    refine sp_iload_n (pc := 27) (k := 2) (i := 2) hX rfl 2 rfl md_Z_putPoint_27 ?_
    refine sp_iastore (pc := 28) hX md_Z_putPoint_28 (fun s7 => ?_)
    refine sp_aload_n (pc := 29) (k := 0) (i := 0) hX rfl 0 rfl md_Z_putPoint_29 ?_
    refine sp_dup (pc := 30) hX rfl md_Z_putPoint_30 ?_
    refine sp_getI (pc := 31) (ci := 7) (k := 2) (idx := 33) hX mcl_7 (by decide) mq_105 rfl md_Z_putPoint_31 (fun v8 => ?_)
    refine sp_iconst (pc := 34) hX md_Z_putPoint_34 ?_
    refine sp_iadd (pc := 35) hX md_Z_putPoint_35 ?_
    refine sp_putI (pc := 36) (ci := 7) (k := 2) (idx := 33) hX mcl_7 (by decide) mq_105 rfl rfl rfl md_Z_putPoint_36 (fun s9 => ?_)
    exact sp_vret (pc := 39) hX hR rfl (Nat.le_of_ble_eq_true rfl) md_Z_putPoint_39
/-! PadeWorkbench$History.giveBack(LPadeWorkbench$State;)V -/
theorem md_H_giveBack_0 : decode prog_6_method_3_code 0 = .ok (.aload_n 0, 1) := by decide +kernel
theorem md_H_giveBack_1 : decode prog_6_method_3_code 1 = .ok (.getfield 26, 3) := by decide +kernel
theorem md_H_giveBack_4 : decode prog_6_method_3_code 4 = .ok (.ifCond .le 38, 3) := by decide +kernel
theorem md_H_giveBack_42 : decode prog_6_method_3_code 42 = .ok (.return_, 1) := by decide +kernel
theorem md_H_giveBack_7 : decode prog_6_method_3_code 7 = .ok (.aload_n 0, 1) := by decide +kernel
theorem md_H_giveBack_8 : decode prog_6_method_3_code 8 = .ok (.aload_n 0, 1) := by decide +kernel
theorem md_H_giveBack_9 : decode prog_6_method_3_code 9 = .ok (.getfield 18, 3) := by decide +kernel
theorem md_H_giveBack_12 : decode prog_6_method_3_code 12 = .ok (.iconst 1, 1) := by decide +kernel
theorem md_H_giveBack_13 : decode prog_6_method_3_code 13 = .ok (.isub, 1) := by decide +kernel
theorem md_H_giveBack_14 : decode prog_6_method_3_code 14 = .ok (.iconst 3, 1) := by decide +kernel
theorem md_H_giveBack_15 : decode prog_6_method_3_code 15 = .ok (.iand, 1) := by decide +kernel
theorem md_H_giveBack_16 : decode prog_6_method_3_code 16 = .ok (.putfield 18, 3) := by decide +kernel
theorem md_H_giveBack_19 : decode prog_6_method_3_code 19 = .ok (.aload_n 1, 1) := by decide +kernel
theorem md_H_giveBack_20 : decode prog_6_method_3_code 20 = .ok (.aload_n 0, 1) := by decide +kernel
theorem md_H_giveBack_21 : decode prog_6_method_3_code 21 = .ok (.getfield 11, 3) := by decide +kernel
theorem md_H_giveBack_24 : decode prog_6_method_3_code 24 = .ok (.aload_n 0, 1) := by decide +kernel
theorem md_H_giveBack_25 : decode prog_6_method_3_code 25 = .ok (.getfield 18, 3) := by decide +kernel
theorem md_H_giveBack_28 : decode prog_6_method_3_code 28 = .ok (.aaload, 1) := by decide +kernel
theorem md_H_giveBack_29 : decode prog_6_method_3_code 29 = .ok (.invokevirtual 22, 3) := by decide +kernel
theorem md_H_giveBack_32 : decode prog_6_method_3_code 32 = .ok (.aload_n 0, 1) := by decide +kernel
theorem md_H_giveBack_33 : decode prog_6_method_3_code 33 = .ok (.dup, 1) := by decide +kernel
theorem md_H_giveBack_34 : decode prog_6_method_3_code 34 = .ok (.getfield 26, 3) := by decide +kernel
theorem md_H_giveBack_37 : decode prog_6_method_3_code 37 = .ok (.iconst 1, 1) := by decide +kernel
theorem md_H_giveBack_38 : decode prog_6_method_3_code 38 = .ok (.isub, 1) := by decide +kernel
theorem md_H_giveBack_39 : decode prog_6_method_3_code 39 = .ok (.putfield 26, 3) := by decide +kernel
def mf_H_giveBack (x0 : Nat) (x1 : Nat) (σ : pw_Sto) : Option (Unit × pw_Sto) := pw_gd 3 x0 σ ((pw_gi 3 x0 2 σ).bind (fun v1 => pw_ck v1 0 (if v1 ≤ 0 then some ((), σ) else (pw_gi 3 x0 1 σ).bind (fun v2 => (pw_pi 3 x0 1 ((v2 - (1 : Int)) % 4) σ).bind (fun s3 => (pw_gr 3 x0 0 s3).bind (fun v4 => (pw_gi 3 x0 1 s3).bind (fun v5 => (pw_ar 12 v4 v5 s3).bind (fun v6 => pw_bd (mf_Z_copyFrom x1 v6 s3) (fun _ s7 => (pw_gi 3 x0 2 s7).bind (fun v8 => (pw_pi 3 x0 2 (v8 - (1 : Int)) s7).bind (fun s9 => some ((), s9))))))))))))
set_option maxHeartbeats 4000000 in
set_option maxRecDepth 20000 in
theorem mc_H_giveBack {l : Launch} {E : pw_E} {σ : pw_Sto} {x0 : Nat} {x1 : Nat} {out : Unit × pw_Sto} (h : mf_H_giveBack x0 x1 σ = some out) : pw_CV l E my_H_giveBack prog_6_method_3_code 2 none mr_H_giveBack [.ref x0, .ref x1] σ out := by
  unfold mf_H_giveBack at h
  refine pw_entryV (by decide) (Nat.le_of_ble_eq_true rfl) (pw_gd_val h) (fun X hX hR hI => ?_)
  change pw_Ok X prog_6_method_3_code "PadeWorkbench$History" mr_H_giveBack 2 at hX
  show pw_Sp X 0 0 0 [(0, Value.ref x0), (1, Value.ref x1)] [] σ _
  refine sp_aload_n (pc := 0) (k := 0) (i := 0) hX rfl 0 rfl md_H_giveBack_0 ?_
  refine sp_getI (pc := 1) (ci := 3) (k := 2) (idx := 26) hX mcl_3 (by decide) mq_137 rfl md_H_giveBack_1 (fun v1 => ?_)
  refine sp_if_le (pc := 4) hX 42 (by decide) md_H_giveBack_4 (fun _ => ?_) (fun _ => ?_)
  · exact sp_vret (pc := 42) hX hR rfl (Nat.le_of_ble_eq_true rfl) md_H_giveBack_42
  · refine sp_aload_n (pc := 7) (k := 0) (i := 0) hX rfl 0 rfl md_H_giveBack_7 ?_
    refine sp_aload_n (pc := 8) (k := 0) (i := 0) hX rfl 0 rfl md_H_giveBack_8 ?_
    refine sp_getI (pc := 9) (ci := 3) (k := 1) (idx := 18) hX mcl_3 (by decide) mq_136 rfl md_H_giveBack_9 (fun v2 => ?_)
    refine sp_iconst (pc := 12) hX md_H_giveBack_12 ?_
    refine sp_isub (pc := 13) hX md_H_giveBack_13 ?_
    refine sp_iconst (pc := 14) hX md_H_giveBack_14 ?_
    refine sp_iand3 (pc := 15) hX md_H_giveBack_15 ?_
    refine sp_putI (pc := 16) (ci := 3) (k := 1) (idx := 18) hX mcl_3 (by decide) mq_136 rfl rfl rfl md_H_giveBack_16 (fun s3 => ?_)
    refine sp_aload_n (pc := 19) (k := 1) (i := 1) hX rfl 1 rfl md_H_giveBack_19 ?_
    refine sp_aload_n (pc := 20) (k := 0) (i := 0) hX rfl 0 rfl md_H_giveBack_20 ?_
    refine sp_getR (pc := 21) (ci := 3) (k := 0) (idx := 11) hX mcl_3 (by decide) mq_135 rfl md_H_giveBack_21 (fun v4 => ?_)
    refine sp_aload_n (pc := 24) (k := 0) (i := 0) hX rfl 0 rfl md_H_giveBack_24 ?_
    refine sp_getI (pc := 25) (ci := 3) (k := 1) (idx := 18) hX mcl_3 (by decide) mq_136 rfl md_H_giveBack_25 (fun v5 => ?_)
    refine sp_aaS (pc := 28) hX md_H_giveBack_28 (fun v6 => ?_)
    refine sp_callVV (pc := 29) (y := my_Z_copyFrom) (ccy := prog_11_method_2_code) (nLy := 3) (ret := none) (rmy := mr_Z_copyFrom) (n := 1) (idx := 22) (As := [.ref v6]) (st := []) (o := x1) (cells' := 0) (slots' := 0) hX (fun _ h => mc_Z_copyFrom h) mk_Z_copyFrom mv_Z_copyFrom mcl_7 (fun _ h => pw_gd_of h) mq_333 ⟨(Nat.le_of_ble_eq_true rfl), (Nat.le_of_ble_eq_true rfl)⟩ rfl rfl (Nat.le_of_ble_eq_true rfl) ⟨(Nat.le_of_ble_eq_true rfl), (Nat.le_of_ble_eq_true rfl)⟩ rfl rfl md_H_giveBack_29 (fun s7 => ?_)
    refine sp_aload_n (pc := 32) (k := 0) (i := 0) hX rfl 0 rfl md_H_giveBack_32 ?_
    refine sp_dup (pc := 33) hX rfl md_H_giveBack_33 ?_
    refine sp_getI (pc := 34) (ci := 3) (k := 2) (idx := 26) hX mcl_3 (by decide) mq_137 rfl md_H_giveBack_34 (fun v8 => ?_)
    refine sp_iconst (pc := 37) hX md_H_giveBack_37 ?_
    refine sp_isub (pc := 38) hX md_H_giveBack_38 ?_
    refine sp_putI (pc := 39) (ci := 3) (k := 2) (idx := 26) hX mcl_3 (by decide) mq_137 rfl rfl rfl md_H_giveBack_39 (fun s9 => ?_)
    exact sp_vret (pc := 42) hX hR rfl (Nat.le_of_ble_eq_true rfl) md_H_giveBack_42
end
