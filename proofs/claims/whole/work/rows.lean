section
-- ===== PART A: goes FIRST, ahead of the names: the tables' words, and 'selects' of the private methods out of them =====
/-- a private method of a class that the tables say can be made, by its rows of tables_1 -/
def lw_okq (q : MethodName × Nat) : Prop := (q.1.cls ≠ "java/lang/invoke/MethodHandle" ∧ q.1.cls ≠ "java/lang/invoke/VarHandle") ∧ Cond.instantiable q.1.cls q.2 ∈ tables_1 ∧ Cond.privateMethod q.1 ∈ tables_1 ∧ Cond.instanceMethod q.1 ∈ tables_1
theorem lw_p0 : lw_okq (⟨"PadeWorkbench", "fail", "(I)I"⟩, 11) := ⟨⟨by decide +kernel, by decide +kernel⟩, List.mem_of_getElem? (i := 17) (by decide +kernel), List.mem_of_getElem? (i := 258) (by decide +kernel), List.mem_of_getElem? (i := 259) (by decide +kernel)⟩
theorem lw_p1 : lw_okq (⟨"PadeWorkbench", "isElement", "(I)Z"⟩, 11) := ⟨⟨by decide +kernel, by decide +kernel⟩, List.mem_of_getElem? (i := 17) (by decide +kernel), List.mem_of_getElem? (i := 290) (by decide +kernel), List.mem_of_getElem? (i := 291) (by decide +kernel)⟩
theorem lw_p2 : lw_okq (⟨"PadeWorkbench", "store", "(I)I"⟩, 11) := ⟨⟨by decide +kernel, by decide +kernel⟩, List.mem_of_getElem? (i := 17) (by decide +kernel), List.mem_of_getElem? (i := 308) (by decide +kernel), List.mem_of_getElem? (i := 309) (by decide +kernel)⟩
theorem lw_p3 : lw_okq (⟨"PadeWorkbench", "composeIntoResult", "([I[I)V"⟩, 11) := ⟨⟨by decide +kernel, by decide +kernel⟩, List.mem_of_getElem? (i := 17) (by decide +kernel), List.mem_of_getElem? (i := 344) (by decide +kernel), List.mem_of_getElem? (i := 345) (by decide +kernel)⟩
theorem lw_p4 : lw_okq (⟨"PadeWorkbench$FractionText", "readPolynomial", "([I)Z"⟩, 6) := ⟨⟨by decide +kernel, by decide +kernel⟩, List.mem_of_getElem? (i := 79) (by decide +kernel), List.mem_of_getElem? (i := 378) (by decide +kernel), List.mem_of_getElem? (i := 379) (by decide +kernel)⟩
theorem lw_p5 : lw_okq (⟨"PadeWorkbench$FractionText", "took", "(I)Z"⟩, 6) := ⟨⟨by decide +kernel, by decide +kernel⟩, List.mem_of_getElem? (i := 79) (by decide +kernel), List.mem_of_getElem? (i := 382) (by decide +kernel), List.mem_of_getElem? (i := 383) (by decide +kernel)⟩
theorem lw_p6 : lw_okq (⟨"PadeWorkbench$FractionText", "peek", "()I"⟩, 6) := ⟨⟨by decide +kernel, by decide +kernel⟩, List.mem_of_getElem? (i := 79) (by decide +kernel), List.mem_of_getElem? (i := 386) (by decide +kernel), List.mem_of_getElem? (i := 387) (by decide +kernel)⟩
theorem lw_p7 : lw_okq (⟨"PadeWorkbench$FractionText", "here", "()I"⟩, 6) := ⟨⟨by decide +kernel, by decide +kernel⟩, List.mem_of_getElem? (i := 79) (by decide +kernel), List.mem_of_getElem? (i := 390) (by decide +kernel), List.mem_of_getElem? (i := 391) (by decide +kernel)⟩
theorem lw_p8 : lw_okq (⟨"PadeWorkbench$FractionText", "readTerm", "([IZ)Z"⟩, 6) := ⟨⟨by decide +kernel, by decide +kernel⟩, List.mem_of_getElem? (i := 79) (by decide +kernel), List.mem_of_getElem? (i := 394) (by decide +kernel), List.mem_of_getElem? (i := 395) (by decide +kernel)⟩
theorem lw_p9 : lw_okq (⟨"PadeWorkbench$FractionText", "readNumber", "()I"⟩, 6) := ⟨⟨by decide +kernel, by decide +kernel⟩, List.mem_of_getElem? (i := 79) (by decide +kernel), List.mem_of_getElem? (i := 401) (by decide +kernel), List.mem_of_getElem? (i := 402) (by decide +kernel)⟩
theorem lw_p10 : lw_okq (⟨"PadeWorkbench$FractionText", "readExponent", "()I"⟩, 6) := ⟨⟨by decide +kernel, by decide +kernel⟩, List.mem_of_getElem? (i := 79) (by decide +kernel), List.mem_of_getElem? (i := 405) (by decide +kernel), List.mem_of_getElem? (i := 406) (by decide +kernel)⟩
theorem lw_p11 : lw_okq (⟨"PadeWorkbench", "approximate", "(III)V"⟩, 11) := ⟨⟨by decide +kernel, by decide +kernel⟩, List.mem_of_getElem? (i := 17) (by decide +kernel), List.mem_of_getElem? (i := 417) (by decide +kernel), List.mem_of_getElem? (i := 418) (by decide +kernel)⟩
theorem lw_p12 : lw_okq (⟨"PadeWorkbench$Euclid", "startCofactors", "()V"⟩, 6) := ⟨⟨by decide +kernel, by decide +kernel⟩, List.mem_of_getElem? (i := 108) (by decide +kernel), List.mem_of_getElem? (i := 442) (by decide +kernel), List.mem_of_getElem? (i := 443) (by decide +kernel)⟩
theorem lw_p13 : lw_okq (⟨"PadeWorkbench$Euclid", "followWithCofactors", "()V"⟩, 6) := ⟨⟨by decide +kernel, by decide +kernel⟩, List.mem_of_getElem? (i := 108) (by decide +kernel), List.mem_of_getElem? (i := 464) (by decide +kernel), List.mem_of_getElem? (i := 465) (by decide +kernel)⟩
theorem lw_p14 : lw_okq (⟨"PadeWorkbench$Toeplitz", "fill", "([III)V"⟩, 1) := ⟨⟨by decide +kernel, by decide +kernel⟩, List.mem_of_getElem? (i := 172) (by decide +kernel), List.mem_of_getElem? (i := 555) (by decide +kernel), List.mem_of_getElem? (i := 556) (by decide +kernel)⟩
theorem lw_p15 : lw_okq (⟨"PadeWorkbench$Toeplitz", "pivotRow", "(II)I"⟩, 1) := ⟨⟨by decide +kernel, by decide +kernel⟩, List.mem_of_getElem? (i := 172) (by decide +kernel), List.mem_of_getElem? (i := 560) (by decide +kernel), List.mem_of_getElem? (i := 561) (by decide +kernel)⟩
def lw_privs_1 : List (MethodName × Nat) := [(⟨"PadeWorkbench", "fail", "(I)I"⟩, 11), (⟨"PadeWorkbench", "isElement", "(I)Z"⟩, 11), (⟨"PadeWorkbench", "store", "(I)I"⟩, 11), (⟨"PadeWorkbench", "composeIntoResult", "([I[I)V"⟩, 11), (⟨"PadeWorkbench$FractionText", "readPolynomial", "([I)Z"⟩, 6), (⟨"PadeWorkbench$FractionText", "took", "(I)Z"⟩, 6), (⟨"PadeWorkbench$FractionText", "peek", "()I"⟩, 6), (⟨"PadeWorkbench$FractionText", "here", "()I"⟩, 6), (⟨"PadeWorkbench$FractionText", "readTerm", "([IZ)Z"⟩, 6), (⟨"PadeWorkbench$FractionText", "readNumber", "()I"⟩, 6), (⟨"PadeWorkbench$FractionText", "readExponent", "()I"⟩, 6), (⟨"PadeWorkbench", "approximate", "(III)V"⟩, 11), (⟨"PadeWorkbench$Euclid", "startCofactors", "()V"⟩, 6), (⟨"PadeWorkbench$Euclid", "followWithCofactors", "()V"⟩, 6), (⟨"PadeWorkbench$Toeplitz", "fill", "([III)V"⟩, 1), (⟨"PadeWorkbench$Toeplitz", "pivotRow", "(II)I"⟩, 1)]
theorem lw_r1 : ∀ q ∈ lw_privs_1, lw_okq q := List.forall_mem_cons.mpr ⟨lw_p0, List.forall_mem_cons.mpr ⟨lw_p1, List.forall_mem_cons.mpr ⟨lw_p2, List.forall_mem_cons.mpr ⟨lw_p3, List.forall_mem_cons.mpr ⟨lw_p4, List.forall_mem_cons.mpr ⟨lw_p5, List.forall_mem_cons.mpr ⟨lw_p6, List.forall_mem_cons.mpr ⟨lw_p7, List.forall_mem_cons.mpr ⟨lw_p8, List.forall_mem_cons.mpr ⟨lw_p9, List.forall_mem_cons.mpr ⟨lw_p10, List.forall_mem_cons.mpr ⟨lw_p11, List.forall_mem_cons.mpr ⟨lw_p12, List.forall_mem_cons.mpr ⟨lw_p13, List.forall_mem_cons.mpr ⟨lw_p14, List.forall_mem_cons.mpr ⟨lw_p15, fun _ h => absurd h List.not_mem_nil⟩⟩⟩⟩⟩⟩⟩⟩⟩⟩⟩⟩⟩⟩⟩⟩
theorem lw_p16 : lw_okq (⟨"PadeWorkbench$Toeplitz", "swapRows", "(II)V"⟩, 1) := ⟨⟨by decide +kernel, by decide +kernel⟩, List.mem_of_getElem? (i := 172) (by decide +kernel), List.mem_of_getElem? (i := 564) (by decide +kernel), List.mem_of_getElem? (i := 565) (by decide +kernel)⟩
theorem lw_p17 : lw_okq (⟨"PadeWorkbench$Toeplitz", "clearBelow", "(III)V"⟩, 1) := ⟨⟨by decide +kernel, by decide +kernel⟩, List.mem_of_getElem? (i := 172) (by decide +kernel), List.mem_of_getElem? (i := 570) (by decide +kernel), List.mem_of_getElem? (i := 571) (by decide +kernel)⟩
theorem lw_p18 : lw_okq (⟨"PadeWorkbench$Scheme", "firstColumns", "([II)V"⟩, 2) := ⟨⟨by decide +kernel, by decide +kernel⟩, List.mem_of_getElem? (i := 183) (by decide +kernel), List.mem_of_getElem? (i := 587) (by decide +kernel), List.mem_of_getElem? (i := 588) (by decide +kernel)⟩
theorem lw_p19 : lw_okq (⟨"PadeWorkbench$Scheme", "nextE", "(I)V"⟩, 2) := ⟨⟨by decide +kernel, by decide +kernel⟩, List.mem_of_getElem? (i := 183) (by decide +kernel), List.mem_of_getElem? (i := 596) (by decide +kernel), List.mem_of_getElem? (i := 597) (by decide +kernel)⟩
theorem lw_p20 : lw_okq (⟨"PadeWorkbench$Scheme", "nextQ", "(I)V"⟩, 2) := ⟨⟨by decide +kernel, by decide +kernel⟩, List.mem_of_getElem? (i := 183) (by decide +kernel), List.mem_of_getElem? (i := 601) (by decide +kernel), List.mem_of_getElem? (i := 602) (by decide +kernel)⟩
theorem lw_p21 : lw_okq (⟨"PadeWorkbench$Register", "gapAt", "([III)I"⟩, 4) := ⟨⟨by decide +kernel, by decide +kernel⟩, List.mem_of_getElem? (i := 196) (by decide +kernel), List.mem_of_getElem? (i := 624) (by decide +kernel), List.mem_of_getElem? (i := 625) (by decide +kernel)⟩
theorem lw_p22 : lw_okq (⟨"PadeWorkbench$Register", "correct", "(III)V"⟩, 4) := ⟨⟨by decide +kernel, by decide +kernel⟩, List.mem_of_getElem? (i := 196) (by decide +kernel), List.mem_of_getElem? (i := 630) (by decide +kernel), List.mem_of_getElem? (i := 631) (by decide +kernel)⟩
theorem lw_p23 : lw_okq (⟨"PadeWorkbench$Register", "keepOlder", "()V"⟩, 4) := ⟨⟨by decide +kernel, by decide +kernel⟩, List.mem_of_getElem? (i := 196) (by decide +kernel), List.mem_of_getElem? (i := 635) (by decide +kernel), List.mem_of_getElem? (i := 636) (by decide +kernel)⟩
theorem lw_p24 : lw_okq (⟨"PadeWorkbench", "isInterpolant", "(I)Z"⟩, 11) := ⟨⟨by decide +kernel, by decide +kernel⟩, List.mem_of_getElem? (i := 17) (by decide +kernel), List.mem_of_getElem? (i := 664) (by decide +kernel), List.mem_of_getElem? (i := 665) (by decide +kernel)⟩
theorem lw_p25 : lw_okq (⟨"PadeWorkbench", "interpolate", "(I)V"⟩, 11) := ⟨⟨by decide +kernel, by decide +kernel⟩, List.mem_of_getElem? (i := 17) (by decide +kernel), List.mem_of_getElem? (i := 668) (by decide +kernel), List.mem_of_getElem? (i := 669) (by decide +kernel)⟩
theorem lw_p26 : lw_okq (⟨"PadeWorkbench", "missedPoints", "()I"⟩, 11) := ⟨⟨by decide +kernel, by decide +kernel⟩, List.mem_of_getElem? (i := 17) (by decide +kernel), List.mem_of_getElem? (i := 688) (by decide +kernel), List.mem_of_getElem? (i := 689) (by decide +kernel)⟩
theorem lw_p27 : lw_okq (⟨"PadeWorkbench", "mixSeries", "(JI)J"⟩, 11) := ⟨⟨by decide +kernel, by decide +kernel⟩, List.mem_of_getElem? (i := 17) (by decide +kernel), List.mem_of_getElem? (i := 718) (by decide +kernel), List.mem_of_getElem? (i := 719) (by decide +kernel)⟩
theorem lw_p28 : lw_okq (⟨"PadeWorkbench", "mixPoints", "(J)J"⟩, 11) := ⟨⟨by decide +kernel, by decide +kernel⟩, List.mem_of_getElem? (i := 17) (by decide +kernel), List.mem_of_getElem? (i := 722) (by decide +kernel), List.mem_of_getElem? (i := 723) (by decide +kernel)⟩
theorem lw_p29 : lw_okq (⟨"PadeWorkbenchModel", "fail", "(I)I"⟩, 20) := ⟨⟨by decide +kernel, by decide +kernel⟩, List.mem_of_getElem? (i := 726) (by decide +kernel), List.mem_of_getElem? (i := 803) (by decide +kernel), List.mem_of_getElem? (i := 804) (by decide +kernel)⟩
theorem lw_p30 : lw_okq (⟨"PadeWorkbenchModel", "save", "()V"⟩, 20) := ⟨⟨by decide +kernel, by decide +kernel⟩, List.mem_of_getElem? (i := 726) (by decide +kernel), List.mem_of_getElem? (i := 807) (by decide +kernel), List.mem_of_getElem? (i := 808) (by decide +kernel)⟩
theorem lw_p31 : lw_okq (⟨"PadeWorkbenchModel", "prime", "()I"⟩, 20) := ⟨⟨by decide +kernel, by decide +kernel⟩, List.mem_of_getElem? (i := 726) (by decide +kernel), List.mem_of_getElem? (i := 811) (by decide +kernel), List.mem_of_getElem? (i := 812) (by decide +kernel)⟩
def lw_privs_2 : List (MethodName × Nat) := [(⟨"PadeWorkbench$Toeplitz", "swapRows", "(II)V"⟩, 1), (⟨"PadeWorkbench$Toeplitz", "clearBelow", "(III)V"⟩, 1), (⟨"PadeWorkbench$Scheme", "firstColumns", "([II)V"⟩, 2), (⟨"PadeWorkbench$Scheme", "nextE", "(I)V"⟩, 2), (⟨"PadeWorkbench$Scheme", "nextQ", "(I)V"⟩, 2), (⟨"PadeWorkbench$Register", "gapAt", "([III)I"⟩, 4), (⟨"PadeWorkbench$Register", "correct", "(III)V"⟩, 4), (⟨"PadeWorkbench$Register", "keepOlder", "()V"⟩, 4), (⟨"PadeWorkbench", "isInterpolant", "(I)Z"⟩, 11), (⟨"PadeWorkbench", "interpolate", "(I)V"⟩, 11), (⟨"PadeWorkbench", "missedPoints", "()I"⟩, 11), (⟨"PadeWorkbench", "mixSeries", "(JI)J"⟩, 11), (⟨"PadeWorkbench", "mixPoints", "(J)J"⟩, 11), (⟨"PadeWorkbenchModel", "fail", "(I)I"⟩, 20), (⟨"PadeWorkbenchModel", "save", "()V"⟩, 20), (⟨"PadeWorkbenchModel", "prime", "()I"⟩, 20)]
theorem lw_r2 : ∀ q ∈ lw_privs_2, lw_okq q := List.forall_mem_cons.mpr ⟨lw_p16, List.forall_mem_cons.mpr ⟨lw_p17, List.forall_mem_cons.mpr ⟨lw_p18, List.forall_mem_cons.mpr ⟨lw_p19, List.forall_mem_cons.mpr ⟨lw_p20, List.forall_mem_cons.mpr ⟨lw_p21, List.forall_mem_cons.mpr ⟨lw_p22, List.forall_mem_cons.mpr ⟨lw_p23, List.forall_mem_cons.mpr ⟨lw_p24, List.forall_mem_cons.mpr ⟨lw_p25, List.forall_mem_cons.mpr ⟨lw_p26, List.forall_mem_cons.mpr ⟨lw_p27, List.forall_mem_cons.mpr ⟨lw_p28, List.forall_mem_cons.mpr ⟨lw_p29, List.forall_mem_cons.mpr ⟨lw_p30, List.forall_mem_cons.mpr ⟨lw_p31, fun _ h => absurd h List.not_mem_nil⟩⟩⟩⟩⟩⟩⟩⟩⟩⟩⟩⟩⟩⟩⟩⟩
theorem lw_p32 : lw_okq (⟨"PadeWorkbenchModel", "term", "(II)I"⟩, 20) := ⟨⟨by decide +kernel, by decide +kernel⟩, List.mem_of_getElem? (i := 726) (by decide +kernel), List.mem_of_getElem? (i := 822) (by decide +kernel), List.mem_of_getElem? (i := 823) (by decide +kernel)⟩
theorem lw_p33 : lw_okq (⟨"PadeWorkbenchModel", "mod", "(I)I"⟩, 20) := ⟨⟨by decide +kernel, by decide +kernel⟩, List.mem_of_getElem? (i := 726) (by decide +kernel), List.mem_of_getElem? (i := 834) (by decide +kernel), List.mem_of_getElem? (i := 835) (by decide +kernel)⟩
theorem lw_p34 : lw_okq (⟨"PadeWorkbenchModel", "store", "(I)I"⟩, 20) := ⟨⟨by decide +kernel, by decide +kernel⟩, List.mem_of_getElem? (i := 726) (by decide +kernel), List.mem_of_getElem? (i := 838) (by decide +kernel), List.mem_of_getElem? (i := 839) (by decide +kernel)⟩
theorem lw_p35 : lw_okq (⟨"PadeWorkbenchModel", "take", "(I[I)V"⟩, 20) := ⟨⟨by decide +kernel, by decide +kernel⟩, List.mem_of_getElem? (i := 726) (by decide +kernel), List.mem_of_getElem? (i := 846) (by decide +kernel), List.mem_of_getElem? (i := 847) (by decide +kernel)⟩
theorem lw_p36 : lw_okq (⟨"PadeWorkbenchModel", "makeProduct", "()V"⟩, 20) := ⟨⟨by decide +kernel, by decide +kernel⟩, List.mem_of_getElem? (i := 726) (by decide +kernel), List.mem_of_getElem? (i := 850) (by decide +kernel), List.mem_of_getElem? (i := 851) (by decide +kernel)⟩
theorem lw_p37 : lw_okq (⟨"PadeWorkbenchModel", "makeQuotient", "()V"⟩, 20) := ⟨⟨by decide +kernel, by decide +kernel⟩, List.mem_of_getElem? (i := 726) (by decide +kernel), List.mem_of_getElem? (i := 861) (by decide +kernel), List.mem_of_getElem? (i := 862) (by decide +kernel)⟩
theorem lw_p38 : lw_okq (⟨"PadeWorkbenchModel", "inverse", "(I)I"⟩, 20) := ⟨⟨by decide +kernel, by decide +kernel⟩, List.mem_of_getElem? (i := 726) (by decide +kernel), List.mem_of_getElem? (i := 865) (by decide +kernel), List.mem_of_getElem? (i := 866) (by decide +kernel)⟩
theorem lw_p39 : lw_okq (⟨"PadeWorkbenchModel", "readFraction", "()Z"⟩, 20) := ⟨⟨by decide +kernel, by decide +kernel⟩, List.mem_of_getElem? (i := 726) (by decide +kernel), List.mem_of_getElem? (i := 889) (by decide +kernel), List.mem_of_getElem? (i := 890) (by decide +kernel)⟩
theorem lw_p40 : lw_okq (⟨"PadeWorkbenchModel", "readPolynomial", "([I)Z"⟩, 20) := ⟨⟨by decide +kernel, by decide +kernel⟩, List.mem_of_getElem? (i := 726) (by decide +kernel), List.mem_of_getElem? (i := 893) (by decide +kernel), List.mem_of_getElem? (i := 894) (by decide +kernel)⟩
theorem lw_p41 : lw_okq (⟨"PadeWorkbenchModel", "skip", "()V"⟩, 20) := ⟨⟨by decide +kernel, by decide +kernel⟩, List.mem_of_getElem? (i := 726) (by decide +kernel), List.mem_of_getElem? (i := 897) (by decide +kernel), List.mem_of_getElem? (i := 898) (by decide +kernel)⟩
theorem lw_p42 : lw_okq (⟨"PadeWorkbenchModel", "here", "()I"⟩, 20) := ⟨⟨by decide +kernel, by decide +kernel⟩, List.mem_of_getElem? (i := 726) (by decide +kernel), List.mem_of_getElem? (i := 901) (by decide +kernel), List.mem_of_getElem? (i := 902) (by decide +kernel)⟩
theorem lw_p43 : lw_okq (⟨"PadeWorkbenchModel", "readTerm", "([II)Z"⟩, 20) := ⟨⟨by decide +kernel, by decide +kernel⟩, List.mem_of_getElem? (i := 726) (by decide +kernel), List.mem_of_getElem? (i := 905) (by decide +kernel), List.mem_of_getElem? (i := 906) (by decide +kernel)⟩
theorem lw_p44 : lw_okq (⟨"PadeWorkbenchModel", "isDigit", "()Z"⟩, 20) := ⟨⟨by decide +kernel, by decide +kernel⟩, List.mem_of_getElem? (i := 726) (by decide +kernel), List.mem_of_getElem? (i := 909) (by decide +kernel), List.mem_of_getElem? (i := 910) (by decide +kernel)⟩
theorem lw_p45 : lw_okq (⟨"PadeWorkbenchModel", "readExponent", "()I"⟩, 20) := ⟨⟨by decide +kernel, by decide +kernel⟩, List.mem_of_getElem? (i := 726) (by decide +kernel), List.mem_of_getElem? (i := 913) (by decide +kernel), List.mem_of_getElem? (i := 914) (by decide +kernel)⟩
theorem lw_p46 : lw_okq (⟨"PadeWorkbenchModel", "isPair", "(III)Z"⟩, 20) := ⟨⟨by decide +kernel, by decide +kernel⟩, List.mem_of_getElem? (i := 726) (by decide +kernel), List.mem_of_getElem? (i := 921) (by decide +kernel), List.mem_of_getElem? (i := 922) (by decide +kernel)⟩
theorem lw_p47 : lw_okq (⟨"PadeWorkbenchModel", "approximate", "(III)V"⟩, 20) := ⟨⟨by decide +kernel, by decide +kernel⟩, List.mem_of_getElem? (i := 726) (by decide +kernel), List.mem_of_getElem? (i := 925) (by decide +kernel), List.mem_of_getElem? (i := 926) (by decide +kernel)⟩
def lw_privs_3 : List (MethodName × Nat) := [(⟨"PadeWorkbenchModel", "term", "(II)I"⟩, 20), (⟨"PadeWorkbenchModel", "mod", "(I)I"⟩, 20), (⟨"PadeWorkbenchModel", "store", "(I)I"⟩, 20), (⟨"PadeWorkbenchModel", "take", "(I[I)V"⟩, 20), (⟨"PadeWorkbenchModel", "makeProduct", "()V"⟩, 20), (⟨"PadeWorkbenchModel", "makeQuotient", "()V"⟩, 20), (⟨"PadeWorkbenchModel", "inverse", "(I)I"⟩, 20), (⟨"PadeWorkbenchModel", "readFraction", "()Z"⟩, 20), (⟨"PadeWorkbenchModel", "readPolynomial", "([I)Z"⟩, 20), (⟨"PadeWorkbenchModel", "skip", "()V"⟩, 20), (⟨"PadeWorkbenchModel", "here", "()I"⟩, 20), (⟨"PadeWorkbenchModel", "readTerm", "([II)Z"⟩, 20), (⟨"PadeWorkbenchModel", "isDigit", "()Z"⟩, 20), (⟨"PadeWorkbenchModel", "readExponent", "()I"⟩, 20), (⟨"PadeWorkbenchModel", "isPair", "(III)Z"⟩, 20), (⟨"PadeWorkbenchModel", "approximate", "(III)V"⟩, 20)]
theorem lw_r3 : ∀ q ∈ lw_privs_3, lw_okq q := List.forall_mem_cons.mpr ⟨lw_p32, List.forall_mem_cons.mpr ⟨lw_p33, List.forall_mem_cons.mpr ⟨lw_p34, List.forall_mem_cons.mpr ⟨lw_p35, List.forall_mem_cons.mpr ⟨lw_p36, List.forall_mem_cons.mpr ⟨lw_p37, List.forall_mem_cons.mpr ⟨lw_p38, List.forall_mem_cons.mpr ⟨lw_p39, List.forall_mem_cons.mpr ⟨lw_p40, List.forall_mem_cons.mpr ⟨lw_p41, List.forall_mem_cons.mpr ⟨lw_p42, List.forall_mem_cons.mpr ⟨lw_p43, List.forall_mem_cons.mpr ⟨lw_p44, List.forall_mem_cons.mpr ⟨lw_p45, List.forall_mem_cons.mpr ⟨lw_p46, List.forall_mem_cons.mpr ⟨lw_p47, fun _ h => absurd h List.not_mem_nil⟩⟩⟩⟩⟩⟩⟩⟩⟩⟩⟩⟩⟩⟩⟩⟩
theorem lw_p48 : lw_okq (⟨"PadeWorkbenchModel", "findVector", "(II)V"⟩, 20) := ⟨⟨by decide +kernel, by decide +kernel⟩, List.mem_of_getElem? (i := 726) (by decide +kernel), List.mem_of_getElem? (i := 929) (by decide +kernel), List.mem_of_getElem? (i := 930) (by decide +kernel)⟩
theorem lw_p49 : lw_okq (⟨"PadeWorkbenchModel", "reduce", "(II)V"⟩, 20) := ⟨⟨by decide +kernel, by decide +kernel⟩, List.mem_of_getElem? (i := 726) (by decide +kernel), List.mem_of_getElem? (i := 933) (by decide +kernel), List.mem_of_getElem? (i := 934) (by decide +kernel)⟩
theorem lw_p50 : lw_okq (⟨"PadeWorkbenchModel", "rowWith", "(III)I"⟩, 20) := ⟨⟨by decide +kernel, by decide +kernel⟩, List.mem_of_getElem? (i := 726) (by decide +kernel), List.mem_of_getElem? (i := 937) (by decide +kernel), List.mem_of_getElem? (i := 938) (by decide +kernel)⟩
theorem lw_p51 : lw_okq (⟨"PadeWorkbenchModel", "exchange", "(II)V"⟩, 20) := ⟨⟨by decide +kernel, by decide +kernel⟩, List.mem_of_getElem? (i := 726) (by decide +kernel), List.mem_of_getElem? (i := 941) (by decide +kernel), List.mem_of_getElem? (i := 942) (by decide +kernel)⟩
theorem lw_p52 : lw_okq (⟨"PadeWorkbenchModel", "lessRow", "(III)V"⟩, 20) := ⟨⟨by decide +kernel, by decide +kernel⟩, List.mem_of_getElem? (i := 726) (by decide +kernel), List.mem_of_getElem? (i := 945) (by decide +kernel), List.mem_of_getElem? (i := 946) (by decide +kernel)⟩
theorem lw_p53 : lw_okq (⟨"PadeWorkbenchModel", "toLowest", "()V"⟩, 20) := ⟨⟨by decide +kernel, by decide +kernel⟩, List.mem_of_getElem? (i := 726) (by decide +kernel), List.mem_of_getElem? (i := 949) (by decide +kernel), List.mem_of_getElem? (i := 950) (by decide +kernel)⟩
theorem lw_p54 : lw_okq (⟨"PadeWorkbenchModel", "divide", "([I[I[I)V"⟩, 20) := ⟨⟨by decide +kernel, by decide +kernel⟩, List.mem_of_getElem? (i := 726) (by decide +kernel), List.mem_of_getElem? (i := 959) (by decide +kernel), List.mem_of_getElem? (i := 960) (by decide +kernel)⟩
theorem lw_p55 : lw_okq (⟨"PadeWorkbenchModel", "degreeOrNone", "([I)I"⟩, 20) := ⟨⟨by decide +kernel, by decide +kernel⟩, List.mem_of_getElem? (i := 726) (by decide +kernel), List.mem_of_getElem? (i := 963) (by decide +kernel), List.mem_of_getElem? (i := 964) (by decide +kernel)⟩
theorem lw_p56 : lw_okq (⟨"PadeWorkbenchModel", "orderOf", "(I)I"⟩, 20) := ⟨⟨by decide +kernel, by decide +kernel⟩, List.mem_of_getElem? (i := 726) (by decide +kernel), List.mem_of_getElem? (i := 983) (by decide +kernel), List.mem_of_getElem? (i := 984) (by decide +kernel)⟩
theorem lw_p57 : lw_okq (⟨"PadeWorkbenchModel", "sizeOf", "(I)I"⟩, 20) := ⟨⟨by decide +kernel, by decide +kernel⟩, List.mem_of_getElem? (i := 726) (by decide +kernel), List.mem_of_getElem? (i := 991) (by decide +kernel), List.mem_of_getElem? (i := 992) (by decide +kernel)⟩
theorem lw_p58 : lw_okq (⟨"PadeWorkbenchModel", "valueAt", "([II)I"⟩, 20) := ⟨⟨by decide +kernel, by decide +kernel⟩, List.mem_of_getElem? (i := 726) (by decide +kernel), List.mem_of_getElem? (i := 999) (by decide +kernel), List.mem_of_getElem? (i := 1000) (by decide +kernel)⟩
theorem lw_p59 : lw_okq (⟨"PadeWorkbenchModel", "normals", "(II)I"⟩, 20) := ⟨⟨by decide +kernel, by decide +kernel⟩, List.mem_of_getElem? (i := 726) (by decide +kernel), List.mem_of_getElem? (i := 1007) (by decide +kernel), List.mem_of_getElem? (i := 1008) (by decide +kernel)⟩
theorem lw_p60 : lw_okq (⟨"PadeWorkbenchModel", "findScheme", "(I)V"⟩, 20) := ⟨⟨by decide +kernel, by decide +kernel⟩, List.mem_of_getElem? (i := 726) (by decide +kernel), List.mem_of_getElem? (i := 1019) (by decide +kernel), List.mem_of_getElem? (i := 1020) (by decide +kernel)⟩
theorem lw_p61 : lw_okq (⟨"PadeWorkbenchModel", "isCut", "(II)Z"⟩, 20) := ⟨⟨by decide +kernel, by decide +kernel⟩, List.mem_of_getElem? (i := 726) (by decide +kernel), List.mem_of_getElem? (i := 1030) (by decide +kernel), List.mem_of_getElem? (i := 1031) (by decide +kernel)⟩
theorem lw_p62 : lw_okq (⟨"PadeWorkbenchModel", "findQuotients", "(III)I"⟩, 20) := ⟨⟨by decide +kernel, by decide +kernel⟩, List.mem_of_getElem? (i := 726) (by decide +kernel), List.mem_of_getElem? (i := 1034) (by decide +kernel), List.mem_of_getElem? (i := 1035) (by decide +kernel)⟩
theorem lw_p63 : lw_okq (⟨"PadeWorkbenchModel", "complexityOf", "(II)I"⟩, 20) := ⟨⟨by decide +kernel, by decide +kernel⟩, List.mem_of_getElem? (i := 726) (by decide +kernel), List.mem_of_getElem? (i := 1046) (by decide +kernel), List.mem_of_getElem? (i := 1047) (by decide +kernel)⟩
def lw_privs_4 : List (MethodName × Nat) := [(⟨"PadeWorkbenchModel", "findVector", "(II)V"⟩, 20), (⟨"PadeWorkbenchModel", "reduce", "(II)V"⟩, 20), (⟨"PadeWorkbenchModel", "rowWith", "(III)I"⟩, 20), (⟨"PadeWorkbenchModel", "exchange", "(II)V"⟩, 20), (⟨"PadeWorkbenchModel", "lessRow", "(III)V"⟩, 20), (⟨"PadeWorkbenchModel", "toLowest", "()V"⟩, 20), (⟨"PadeWorkbenchModel", "divide", "([I[I[I)V"⟩, 20), (⟨"PadeWorkbenchModel", "degreeOrNone", "([I)I"⟩, 20), (⟨"PadeWorkbenchModel", "orderOf", "(I)I"⟩, 20), (⟨"PadeWorkbenchModel", "sizeOf", "(I)I"⟩, 20), (⟨"PadeWorkbenchModel", "valueAt", "([II)I"⟩, 20), (⟨"PadeWorkbenchModel", "normals", "(II)I"⟩, 20), (⟨"PadeWorkbenchModel", "findScheme", "(I)V"⟩, 20), (⟨"PadeWorkbenchModel", "isCut", "(II)Z"⟩, 20), (⟨"PadeWorkbenchModel", "findQuotients", "(III)I"⟩, 20), (⟨"PadeWorkbenchModel", "complexityOf", "(II)I"⟩, 20)]
theorem lw_r4 : ∀ q ∈ lw_privs_4, lw_okq q := List.forall_mem_cons.mpr ⟨lw_p48, List.forall_mem_cons.mpr ⟨lw_p49, List.forall_mem_cons.mpr ⟨lw_p50, List.forall_mem_cons.mpr ⟨lw_p51, List.forall_mem_cons.mpr ⟨lw_p52, List.forall_mem_cons.mpr ⟨lw_p53, List.forall_mem_cons.mpr ⟨lw_p54, List.forall_mem_cons.mpr ⟨lw_p55, List.forall_mem_cons.mpr ⟨lw_p56, List.forall_mem_cons.mpr ⟨lw_p57, List.forall_mem_cons.mpr ⟨lw_p58, List.forall_mem_cons.mpr ⟨lw_p59, List.forall_mem_cons.mpr ⟨lw_p60, List.forall_mem_cons.mpr ⟨lw_p61, List.forall_mem_cons.mpr ⟨lw_p62, List.forall_mem_cons.mpr ⟨lw_p63, fun _ h => absurd h List.not_mem_nil⟩⟩⟩⟩⟩⟩⟩⟩⟩⟩⟩⟩⟩⟩⟩⟩
theorem lw_p64 : lw_okq (⟨"PadeWorkbenchModel", "isRecurrent", "(III)Z"⟩, 20) := ⟨⟨by decide +kernel, by decide +kernel⟩, List.mem_of_getElem? (i := 726) (by decide +kernel), List.mem_of_getElem? (i := 1050) (by decide +kernel), List.mem_of_getElem? (i := 1051) (by decide +kernel)⟩
theorem lw_p65 : lw_okq (⟨"PadeWorkbenchModel", "points", "()I"⟩, 20) := ⟨⟨by decide +kernel, by decide +kernel⟩, List.mem_of_getElem? (i := 726) (by decide +kernel), List.mem_of_getElem? (i := 1062) (by decide +kernel), List.mem_of_getElem? (i := 1063) (by decide +kernel)⟩
theorem lw_p66 : lw_okq (⟨"PadeWorkbenchModel", "interpolate", "(I)V"⟩, 20) := ⟨⟨by decide +kernel, by decide +kernel⟩, List.mem_of_getElem? (i := 726) (by decide +kernel), List.mem_of_getElem? (i := 1074) (by decide +kernel), List.mem_of_getElem? (i := 1075) (by decide +kernel)⟩
theorem lw_p67 : lw_okq (⟨"PadeWorkbenchModel", "missed", "(I)I"⟩, 20) := ⟨⟨by decide +kernel, by decide +kernel⟩, List.mem_of_getElem? (i := 726) (by decide +kernel), List.mem_of_getElem? (i := 1082) (by decide +kernel), List.mem_of_getElem? (i := 1083) (by decide +kernel)⟩
def lw_privs_5 : List (MethodName × Nat) := [(⟨"PadeWorkbenchModel", "isRecurrent", "(III)Z"⟩, 20), (⟨"PadeWorkbenchModel", "points", "()I"⟩, 20), (⟨"PadeWorkbenchModel", "interpolate", "(I)V"⟩, 20), (⟨"PadeWorkbenchModel", "missed", "(I)I"⟩, 20)]
theorem lw_r5 : ∀ q ∈ lw_privs_5, lw_okq q := List.forall_mem_cons.mpr ⟨lw_p64, List.forall_mem_cons.mpr ⟨lw_p65, List.forall_mem_cons.mpr ⟨lw_p66, List.forall_mem_cons.mpr ⟨lw_p67, fun _ h => absurd h List.not_mem_nil⟩⟩⟩⟩
def lw_privs : List (MethodName × Nat) := lw_privs_1 ++ (lw_privs_2 ++ (lw_privs_3 ++ (lw_privs_4 ++ (lw_privs_5))))
def lw_tbl : List Cond := k2_sels lw_privs ++ tables_1
theorem lw_privs_ok : ∀ q ∈ lw_privs, lw_okq q := by
  show ∀ q ∈ lw_privs_1 ++ (lw_privs_2 ++ (lw_privs_3 ++ (lw_privs_4 ++ (lw_privs_5)))), lw_okq q
  exact List.forall_mem_append.mpr ⟨lw_r1, List.forall_mem_append.mpr ⟨lw_r2, List.forall_mem_append.mpr ⟨lw_r3, List.forall_mem_append.mpr ⟨lw_r4, lw_r5⟩⟩⟩⟩
end
section
def pw_T0 : u_T := fun k => match k with
  | 0 => ("PadeWorkbench$Euclid", "before", "LPadeWorkbench$Polynomial;", false)
  | 1 => ("PadeWorkbench$Euclid", "latest", "LPadeWorkbench$Polynomial;", false)
  | 2 => ("PadeWorkbench$Euclid", "cofactorBefore", "LPadeWorkbench$Polynomial;", false)
  | 3 => ("PadeWorkbench$Euclid", "cofactor", "LPadeWorkbench$Polynomial;", false)
  | 4 => ("PadeWorkbench$Euclid", "quotient", "LPadeWorkbench$Polynomial;", true)
  | _ => ("PadeWorkbench$Euclid", "p", "I", false)
def pw_Y0 : Nat → FieldType := fun k => match k with
  | 0 => .object "PadeWorkbench$Polynomial"
  | 1 => .object "PadeWorkbench$Polynomial"
  | 2 => .object "PadeWorkbench$Polynomial"
  | 3 => .object "PadeWorkbench$Polynomial"
  | 4 => .object "PadeWorkbench$Polynomial"
  | _ => .int
theorem pw_n0 : ∀ a, a < 6 → ∀ b, b < 6 → a ≠ b → (pw_T0 a).2.1 ≠ (pw_T0 b).2.1 := by decide +kernel
theorem pw_y0 : ∀ k, k < 6 → parseFieldDescriptor (pw_T0 k).2.2.1 = some (pw_Y0 k) := by decide +kernel
def pw_T1 : u_T := fun k => match k with
  | 0 => ("PadeWorkbench$Fraction", "top", "LPadeWorkbench$Polynomial;", true)
  | _ => ("PadeWorkbench$Fraction", "bottom", "LPadeWorkbench$Polynomial;", true)
def pw_Y1 : Nat → FieldType := fun k => match k with
  | 0 => .object "PadeWorkbench$Polynomial"
  | _ => .object "PadeWorkbench$Polynomial"
theorem pw_n1 : ∀ a, a < 2 → ∀ b, b < 2 → a ≠ b → (pw_T1 a).2.1 ≠ (pw_T1 b).2.1 := by decide +kernel
theorem pw_y1 : ∀ k, k < 2 → parseFieldDescriptor (pw_T1 k).2.2.1 = some (pw_Y1 k) := by decide +kernel
def pw_T2 : u_T := fun k => match k with
  | 0 => ("PadeWorkbench$FractionText", "bytes", "[I", true)
  | 1 => ("PadeWorkbench$FractionText", "length", "I", false)
  | 2 => ("PadeWorkbench$FractionText", "position", "I", false)
  | 3 => ("PadeWorkbench$FractionText", "p", "I", false)
  | 4 => ("PadeWorkbench$FractionText", "top", "[I", true)
  | _ => ("PadeWorkbench$FractionText", "bottom", "[I", true)
def pw_Y2 : Nat → FieldType := fun k => match k with
  | 0 => .array .int
  | 1 => .int
  | 2 => .int
  | 3 => .int
  | 4 => .array .int
  | _ => .array .int
theorem pw_n2 : ∀ a, a < 6 → ∀ b, b < 6 → a ≠ b → (pw_T2 a).2.1 ≠ (pw_T2 b).2.1 := by decide +kernel
theorem pw_y2 : ∀ k, k < 6 → parseFieldDescriptor (pw_T2 k).2.2.1 = some (pw_Y2 k) := by decide +kernel
def pw_T3 : u_T := fun k => match k with
  | 0 => ("PadeWorkbench$History", "states", "[LPadeWorkbench$State;", true)
  | 1 => ("PadeWorkbench$History", "next", "I", false)
  | _ => ("PadeWorkbench$History", "count", "I", false)
def pw_Y3 : Nat → FieldType := fun k => match k with
  | 0 => .array (.object "PadeWorkbench$State")
  | 1 => .int
  | _ => .int
theorem pw_n3 : ∀ a, a < 3 → ∀ b, b < 3 → a ≠ b → (pw_T3 a).2.1 ≠ (pw_T3 b).2.1 := by decide +kernel
theorem pw_y3 : ∀ k, k < 3 → parseFieldDescriptor (pw_T3 k).2.2.1 = some (pw_Y3 k) := by decide +kernel
def pw_T4 : u_T := fun k => match k with
  | 0 => ("PadeWorkbench$Polynomial", "row", "[I", true)
  | _ => ("PadeWorkbench$Polynomial", "degree", "I", false)
def pw_Y4 : Nat → FieldType := fun k => match k with
  | 0 => .array .int
  | _ => .int
theorem pw_n4 : ∀ a, a < 2 → ∀ b, b < 2 → a ≠ b → (pw_T4 a).2.1 ≠ (pw_T4 b).2.1 := by decide +kernel
theorem pw_y4 : ∀ k, k < 2 → parseFieldDescriptor (pw_T4 k).2.2.1 = some (pw_Y4 k) := by decide +kernel
def pw_T5 : u_T := fun k => match k with
  | 0 => ("PadeWorkbench$Register", "connection", "[I", false)
  | 1 => ("PadeWorkbench$Register", "older", "[I", false)
  | 2 => ("PadeWorkbench$Register", "spareRow", "[I", false)
  | _ => ("PadeWorkbench$Register", "size", "I", false)
def pw_Y5 : Nat → FieldType := fun k => match k with
  | 0 => .array .int
  | 1 => .array .int
  | 2 => .array .int
  | _ => .int
theorem pw_n5 : ∀ a, a < 4 → ∀ b, b < 4 → a ≠ b → (pw_T5 a).2.1 ≠ (pw_T5 b).2.1 := by decide +kernel
theorem pw_y5 : ∀ k, k < 4 → parseFieldDescriptor (pw_T5 k).2.2.1 = some (pw_Y5 k) := by decide +kernel
def pw_T6 : u_T := fun k => match k with
  | 0 => ("PadeWorkbench$Scheme", "q", "[I", true)
  | _ => ("PadeWorkbench$Scheme", "e", "[I", true)
def pw_Y6 : Nat → FieldType := fun k => match k with
  | 0 => .array .int
  | _ => .array .int
theorem pw_n6 : ∀ a, a < 2 → ∀ b, b < 2 → a ≠ b → (pw_T6 a).2.1 ≠ (pw_T6 b).2.1 := by decide +kernel
theorem pw_y6 : ∀ k, k < 2 → parseFieldDescriptor (pw_T6 k).2.2.1 = some (pw_Y6 k) := by decide +kernel
def pw_T7 : u_T := fun k => match k with
  | 0 => ("PadeWorkbench$State", "prime", "I", false)
  | 1 => ("PadeWorkbench$State", "series", "[[I", true)
  | 2 => ("PadeWorkbench$State", "points", "I", false)
  | 3 => ("PadeWorkbench$State", "xs", "[I", true)
  | _ => ("PadeWorkbench$State", "ys", "[I", true)
def pw_Y7 : Nat → FieldType := fun k => match k with
  | 0 => .int
  | 1 => .array (.array .int)
  | 2 => .int
  | 3 => .array .int
  | _ => .array .int
theorem pw_n7 : ∀ a, a < 5 → ∀ b, b < 5 → a ≠ b → (pw_T7 a).2.1 ≠ (pw_T7 b).2.1 := by decide +kernel
theorem pw_y7 : ∀ k, k < 5 → parseFieldDescriptor (pw_T7 k).2.2.1 = some (pw_Y7 k) := by decide +kernel
def pw_T8 : u_T := fun k => match k with
  | _ => ("PadeWorkbench$Toeplitz", "cells", "[[I", true)
def pw_Y8 : Nat → FieldType := fun k => match k with
  | _ => .array (.array .int)
theorem pw_n8 : ∀ a, a < 1 → ∀ b, b < 1 → a ≠ b → (pw_T8 a).2.1 ≠ (pw_T8 b).2.1 := by decide +kernel
theorem pw_y8 : ∀ k, k < 1 → parseFieldDescriptor (pw_T8 k).2.2.1 = some (pw_Y8 k) := by decide +kernel
def pw_T9 : u_T := fun k => match k with
  | 0 => ("PadeWorkbench", "now", "LPadeWorkbench$State;", true)
  | 1 => ("PadeWorkbench", "history", "LPadeWorkbench$History;", true)
  | 2 => ("PadeWorkbench", "text", "LPadeWorkbench$FractionText;", true)
  | 3 => ("PadeWorkbench", "euclid", "LPadeWorkbench$Euclid;", true)
  | 4 => ("PadeWorkbench", "fraction", "LPadeWorkbench$Fraction;", true)
  | 5 => ("PadeWorkbench", "toeplitz", "LPadeWorkbench$Toeplitz;", true)
  | 6 => ("PadeWorkbench", "scheme", "LPadeWorkbench$Scheme;", true)
  | 7 => ("PadeWorkbench", "register", "LPadeWorkbench$Register;", true)
  | 8 => ("PadeWorkbench", "result", "[I", true)
  | 9 => ("PadeWorkbench", "spare", "[I", true)
  | _ => ("PadeWorkbench", "errors", "[I", true)
def pw_Y9 : Nat → FieldType := fun k => match k with
  | 0 => .object "PadeWorkbench$State"
  | 1 => .object "PadeWorkbench$History"
  | 2 => .object "PadeWorkbench$FractionText"
  | 3 => .object "PadeWorkbench$Euclid"
  | 4 => .object "PadeWorkbench$Fraction"
  | 5 => .object "PadeWorkbench$Toeplitz"
  | 6 => .object "PadeWorkbench$Scheme"
  | 7 => .object "PadeWorkbench$Register"
  | 8 => .array .int
  | 9 => .array .int
  | _ => .array .int
theorem pw_n9 : ∀ a, a < 11 → ∀ b, b < 11 → a ≠ b → (pw_T9 a).2.1 ≠ (pw_T9 b).2.1 := by decide +kernel
theorem pw_y9 : ∀ k, k < 11 → parseFieldDescriptor (pw_T9 k).2.2.1 = some (pw_Y9 k) := by decide +kernel
def pw_T10 : u_T := fun k => match k with
  | 0 => ("PadeWorkbenchModel", "now", "[I", true)
  | 1 => ("PadeWorkbenchModel", "history", "[I", true)
  | 2 => ("PadeWorkbenchModel", "saved", "I", false)
  | 3 => ("PadeWorkbenchModel", "errors", "[I", true)
  | 4 => ("PadeWorkbenchModel", "text", "[I", true)
  | 5 => ("PadeWorkbenchModel", "length", "I", false)
  | 6 => ("PadeWorkbenchModel", "made", "[I", true)
  | 7 => ("PadeWorkbenchModel", "one", "[I", true)
  | 8 => ("PadeWorkbenchModel", "two", "[I", true)
  | 9 => ("PadeWorkbenchModel", "next", "I", false)
  | 10 => ("PadeWorkbenchModel", "matrix", "[I", true)
  | 11 => ("PadeWorkbenchModel", "pivot", "[I", true)
  | 12 => ("PadeWorkbenchModel", "vector", "[I", true)
  | 13 => ("PadeWorkbenchModel", "up", "[I", true)
  | 14 => ("PadeWorkbenchModel", "low", "[I", true)
  | 15 => ("PadeWorkbenchModel", "first", "[I", true)
  | 16 => ("PadeWorkbenchModel", "second", "[I", true)
  | 17 => ("PadeWorkbenchModel", "third", "[I", true)
  | 18 => ("PadeWorkbenchModel", "quotients", "[I", true)
  | _ => ("PadeWorkbenchModel", "differences", "[I", true)
def pw_Y10 : Nat → FieldType := fun k => match k with
  | 0 => .array .int
  | 1 => .array .int
  | 2 => .int
  | 3 => .array .int
  | 4 => .array .int
  | 5 => .int
  | 6 => .array .int
  | 7 => .array .int
  | 8 => .array .int
  | 9 => .int
  | 10 => .array .int
  | 11 => .array .int
  | 12 => .array .int
  | 13 => .array .int
  | 14 => .array .int
  | 15 => .array .int
  | 16 => .array .int
  | 17 => .array .int
  | 18 => .array .int
  | _ => .array .int
theorem pw_n10 : ∀ a, a < 20 → ∀ b, b < 20 → a ≠ b → (pw_T10 a).2.1 ≠ (pw_T10 b).2.1 := by decide +kernel
theorem pw_y10 : ∀ k, k < 20 → parseFieldDescriptor (pw_T10 k).2.2.1 = some (pw_Y10 k) := by decide +kernel
abbrev pw_cl : List vw_C := [("PadeWorkbench$Euclid", pw_T0, 6), ("PadeWorkbench$Fraction", pw_T1, 2), ("PadeWorkbench$FractionText", pw_T2, 6), ("PadeWorkbench$History", pw_T3, 3), ("PadeWorkbench$Polynomial", pw_T4, 2), ("PadeWorkbench$Register", pw_T5, 4), ("PadeWorkbench$Scheme", pw_T6, 2), ("PadeWorkbench$State", pw_T7, 5), ("PadeWorkbench$Toeplitz", pw_T8, 1), ("PadeWorkbench", pw_T9, 11), ("PadeWorkbenchModel", pw_T10, 20)]
def pw_ft : Nat → List Bool := fun c => match c with
  | 0 => [false, false, false, false, false, true]
  | 1 => [false, false]
  | 2 => [false, true, true, true, false, false]
  | 3 => [false, true, true]
  | 4 => [false, true]
  | 5 => [false, false, false, true]
  | 6 => [false, false]
  | 7 => [true, false, true, false, false]
  | 8 => [false]
  | 9 => [false, false, false, false, false, false, false, false, false, false, false]
  | 10 => [false, false, true, false, false, true, false, false, false, true, false, false, false, false, false, false, false, false, false, false]
  | _ => []
def pw_shT : List (Nat × Nat) := [(9, 0), (7, 0), (13, 4), (11, 16), (11, 16), (11, 16), (11, 16), (11, 10), (11, 10), (3, 0), (12, 4), (7, 0), (13, 4), (11, 16), (11, 16), (11, 16), (11, 16), (11, 10), (11, 10), (7, 0), (13, 4), (11, 16), (11, 16), (11, 16), (11, 16), (11, 10), (11, 10), (7, 0), (13, 4), (11, 16), (11, 16), (11, 16), (11, 16), (11, 10), (11, 10), (7, 0), (13, 4), (11, 16), (11, 16), (11, 16), (11, 16), (11, 10), (11, 10), (2, 0), (11, 80), (11, 16), (11, 16), (0, 0), (4, 0), (11, 17), (4, 0), (11, 17), (4, 0), (11, 17), (4, 0), (11, 17), (4, 0), (11, 17), (1, 0), (4, 0), (11, 17), (4, 0), (11, 17), (8, 0), (13, 16), (11, 16), (11, 16), (11, 16), (11, 16), (11, 16), (11, 16), (11, 16), (11, 16), (11, 16), (11, 16), (11, 16), (11, 16), (11, 16), (11, 16), (11, 16), (11, 16), (6, 0), (11, 16), (11, 16), (5, 0), (11, 17), (11, 17), (11, 17), (11, 16), (11, 16), (11, 3), (10, 0), (11, 86), (11, 344), (11, 3), (11, 80), (11, 16), (11, 16), (11, 16), (11, 324), (11, 18), (11, 18), (11, 18), (11, 18), (11, 18), (11, 18), (11, 18), (11, 170), (11, 170)]
def pw_sh (i : Nat) : Nat × Nat := pw_shT.getD i (99, 0)
def pw_nF : List (String × Nat × String × String × String × String) := [("PadeWorkbench", 83, "PadeWorkbench$State", "prime", "I", "PadeWorkbench"), ("PadeWorkbench$Euclid", 45, "PadeWorkbench$State", "prime", "I", "PadeWorkbench"), ("PadeWorkbench", 104, "PadeWorkbench$State", "series", "[[I", "PadeWorkbench"), ("PadeWorkbench$Euclid", 53, "PadeWorkbench$State", "points", "I", "PadeWorkbench"), ("PadeWorkbench", 226, "PadeWorkbench$State", "points", "I", "PadeWorkbench"), ("PadeWorkbench$Euclid", 56, "PadeWorkbench$State", "xs", "[I", "PadeWorkbench"), ("PadeWorkbench", 264, "PadeWorkbench$State", "xs", "[I", "PadeWorkbench"), ("PadeWorkbench$Euclid", 60, "PadeWorkbench$State", "ys", "[I", "PadeWorkbench"), ("PadeWorkbench", 267, "PadeWorkbench$State", "ys", "[I", "PadeWorkbench"), ("PadeWorkbench", 243, "PadeWorkbench$History", "count", "I", "PadeWorkbench"), ("PadeWorkbench", 131, "PadeWorkbench$FractionText", "length", "I", "PadeWorkbench"), ("PadeWorkbench", 140, "PadeWorkbench$FractionText", "position", "I", "PadeWorkbench"), ("PadeWorkbench", 146, "PadeWorkbench$FractionText", "top", "[I", "PadeWorkbench"), ("PadeWorkbench", 143, "PadeWorkbench$FractionText", "bottom", "[I", "PadeWorkbench"), ("PadeWorkbench$Fraction", 53, "PadeWorkbench$Polynomial", "row", "[I", "PadeWorkbench"), ("PadeWorkbench$Euclid", 96, "PadeWorkbench$Polynomial", "row", "[I", "PadeWorkbench"), ("PadeWorkbench", 167, "PadeWorkbench$Polynomial", "row", "[I", "PadeWorkbench"), ("PadeWorkbench$Fraction", 25, "PadeWorkbench$Polynomial", "degree", "I", "PadeWorkbench"), ("PadeWorkbench$Euclid", 87, "PadeWorkbench$Polynomial", "degree", "I", "PadeWorkbench"), ("PadeWorkbench", 160, "PadeWorkbench$Polynomial", "degree", "I", "PadeWorkbench"), ("PadeWorkbench", 202, "PadeWorkbench$Euclid", "latest", "LPadeWorkbench$Polynomial;", "PadeWorkbench"), ("PadeWorkbench", 292, "PadeWorkbench$Euclid", "cofactor", "LPadeWorkbench$Polynomial;", "PadeWorkbench"), ("PadeWorkbench", 208, "PadeWorkbench$Euclid", "quotient", "LPadeWorkbench$Polynomial;", "PadeWorkbench"), ("PadeWorkbench", 157, "PadeWorkbench$Fraction", "top", "LPadeWorkbench$Polynomial;", "PadeWorkbench"), ("PadeWorkbench", 165, "PadeWorkbench$Fraction", "bottom", "LPadeWorkbench$Polynomial;", "PadeWorkbench"), ("PadeWorkbench", 217, "PadeWorkbench$Register", "connection", "[I", "PadeWorkbench"), ("PadeWorkbench", 214, "PadeWorkbench$Register", "size", "I", "PadeWorkbench")]
def pw_nM : List (String × Nat × MethodName × String) := [("PadeWorkbench", 9, ⟨"PadeWorkbench$State", "<init>", "()V"⟩, "PadeWorkbench"), ("PadeWorkbench$History", 17, ⟨"PadeWorkbench$State", "<init>", "()V"⟩, "PadeWorkbench"), ("PadeWorkbench", 25, ⟨"PadeWorkbench$FractionText", "<init>", "()V"⟩, "PadeWorkbench"), ("PadeWorkbench", 32, ⟨"PadeWorkbench$Euclid", "<init>", "()V"⟩, "PadeWorkbench"), ("PadeWorkbench$Euclid", 11, ⟨"PadeWorkbench$Polynomial", "<init>", "()V"⟩, "PadeWorkbench"), ("PadeWorkbench", 39, ⟨"PadeWorkbench$Fraction", "<init>", "()V"⟩, "PadeWorkbench"), ("PadeWorkbench$Fraction", 11, ⟨"PadeWorkbench$Polynomial", "<init>", "()V"⟩, "PadeWorkbench"), ("PadeWorkbench", 46, ⟨"PadeWorkbench$Toeplitz", "<init>", "()V"⟩, "PadeWorkbench"), ("PadeWorkbench", 53, ⟨"PadeWorkbench$Scheme", "<init>", "()V"⟩, "PadeWorkbench"), ("PadeWorkbench", 60, ⟨"PadeWorkbench$Register", "<init>", "()V"⟩, "PadeWorkbench"), ("PadeWorkbench$Toeplitz", 41, ⟨"PadeWorkbench", "isTerm", "(I)Z"⟩, "PadeWorkbench")]
def pw_nO : List FieldType := [.array .int, .object "PadeWorkbench$State"]
def pw_nest : List Cond := pw_nF.map (fun q => .fieldLinkNest q.1 q.2.1 q.2.2.1 q.2.2.2.1 q.2.2.2.2.1 q.2.2.2.2.2) ++ (pw_nM.map (fun q => .methodLinkNest q.1 q.2.1 q.2.2.1 q.2.2.2) ++ pw_nO.map (fun q => .arrayOver q))
theorem pw_nest_warm {u U : State} (hW : u.WarmedH U.vm) {w : Cond} (hw : w ∈ pw_nest) (h : va_Nw w u) : va_Nw w U := by
  rcases List.mem_append.mp hw with q | q
  · obtain ⟨x, -, rfl⟩ := List.mem_map.mp q
    exact va_Nw.warmF hW h
  · rcases List.mem_append.mp q with q | q
    · obtain ⟨x, -, rfl⟩ := List.mem_map.mp q
      exact va_Nw.warmM hW h
    · obtain ⟨x, -, rfl⟩ := List.mem_map.mp q
      have h2 : (Cond.arrayOver x).before #[] (u.setVm U.vm) = true := (Cond.arrayOver_setVmC hW.alike x).trans h
      exact h2
end
section
/-! the store: how many cells there are, the ints of each cell, the references of each cell (by number) -/
abbrev pw_Sto : Type := Nat × (Nat → Nat → Int32) × (Nat → Nat → Option Nat)
def pw_gt : List Cond := lw_tbl.filter goodWord
theorem pw_gt_at {w : Cond} (i : Nat) (h : lw_tbl[i]? = some w) (hg : goodWord w = true) : w ∈ pw_gt := List.mem_filter.mpr ⟨List.mem_of_getElem? h, hg⟩
theorem pw_good {c2 : Cond} (h : c2 ∈ pw_gt) : GoodIn pw_gt (c2 :: pw_gt) := by
  intro w hw
  have hm : w ∈ pw_gt := by
    rcases List.mem_cons.mp hw with e | e
    · rw [e]; exact h
    · exact e
  exact ⟨hm, good_of_word (List.mem_filter.mp hm).2⟩
def pw_tr (b : Nat) : Value → Value
  | .ref i => .ref (b + i)
  | .retAddr a => .ref a
  | v => v
theorem pw_tr_cat (b : Nat) (v : Value) : (pw_tr b v).category = v.category := by cases v <;> rfl
def pw_trq (b : Nat) (q : Nat × Value) : Nat × Value := (q.1, pw_tr b q.2)
def pw_u2 {β : Type} (f : Nat → Nat → β) (o k : Nat) (v : β) : Nat → Nat → β := fun i => if i = o then (fun j => if j = k then v else f o j) else f i
def pw_fld (b : Nat) (σ : pw_Sto) (i : Nat) (isI : Bool) (k : Nat) : Value := match isI with
  | true => .int (σ.2.1 i k)
  | false => va_rf ((σ.2.2 i k).map (fun j => b + j))
def pw_flds (b : Nat) (σ : pw_Sto) (i : Nat) (t : List Bool) : List Value := t.mapIdx (fun k isI => pw_fld b σ i isI k)
abbrev pw_E : Type := Nat × va_G × ClassId × ClassId × ClassId
def pw_cell (E : pw_E) (σ : pw_Sto) (i : Nat) : va_E :=
  if (pw_sh i).1 = 11 then .inl (E.2.2.1, (pw_sh i).2, .inl (σ.2.1 i))
  else if (pw_sh i).1 = 12 then .inl (E.2.2.2.1, (pw_sh i).2, .inr (.inr (.inr (.inr (fun k => (σ.2.2 i k).map (fun j => E.1 + j))))))
  else if (pw_sh i).1 = 13 then .inl (E.2.2.2.2, (pw_sh i).2, .inr (.inr (.inr (.inr (fun k => (σ.2.2 i k).map (fun j => E.1 + j))))))
  else .inr ((pw_sh i).1, pw_flds E.1 σ i (pw_ft (pw_sh i).1))
def pw_ws (E : pw_E) (σ : pw_Sto) : va_W := (List.range σ.1).map (fun i => (E.1 + i, pw_cell E σ i))
def pw_tys (E : pw_E) : List (ClassId × FieldType) := [(E.2.2.1, .int), (E.2.2.2.1, .object "PadeWorkbench$State"), (E.2.2.2.2, .array .int)]
def pw_H (E : pw_E) (σ : pw_Sto) (H : Heap) : Prop := va_P E.2.1 pw_cl (pw_ws E σ) H
def pw_ov (ty : FieldType) (U : State) : Prop := (Cond.arrayOver ty).before #[] U = true
def pw_T (E : pw_E) (U : State) : Prop := va_K E.2.1 pw_cl (pw_tys E) U ∧ (∀ w ∈ pw_nest, va_Nw w U)
def pw_U (E : pw_E) (σ : pw_Sto) (U : State) : Prop := pw_H E σ U.heap ∧ U.heap.size = E.1 + σ.1 ∧ pw_T E U
theorem pw_ws_at {E : pw_E} {σ : pw_Sto} {i : Nat} (h : i < σ.1) : (pw_ws E σ)[i]? = some (E.1 + i, pw_cell E σ i) := by
  unfold pw_ws
  rw [List.getElem?_map, List.getElem?_range h]
  rfl
theorem pw_ws_D (E : pw_E) (σ : pw_Sto) : va_D (fun q => E.1 ≤ q) (pw_ws E σ) := by
  have key : ∀ (k : Nat) (q : Nat × va_E), (pw_ws E σ)[k]? = some q → q.1 = E.1 + k := by
    intro k q h
    unfold pw_ws at h
    rw [List.getElem?_map] at h
    by_cases hk : k < σ.1
    · rw [List.getElem?_range hk] at h
      cases h
      rfl
    · rw [List.getElem?_eq_none (by rw [List.length_range]; omega)] at h
      cases h
  refine ⟨fun i j p q hi hj h => ?_, fun k q h => ?_⟩
  · have h1 := key i p hi
    have h2 := key j q hj
    omega
  · have h1 := key k q h
    show E.1 ≤ q.1
    omega
theorem pw_ws_set {E : pw_E} {σ σ' : pw_Sto} {o : Nat} (hN : σ'.1 = σ.1) (ho : o < σ.1) (hc : ∀ j, j ≠ o → pw_cell E σ' j = pw_cell E σ j) {e : va_E} (he : pw_cell E σ' o = e) : (pw_ws E σ).set o (E.1 + o, e) = pw_ws E σ' := by
  apply List.ext_getElem?
  intro k
  by_cases hk : k = o
  · subst hk
    rw [List.getElem?_set_self (by unfold pw_ws; simpa using ho), pw_ws_at (by rw [hN]; exact ho), he]
  · rw [List.getElem?_set_ne (Ne.symm hk)]
    unfold pw_ws
    rw [hN, List.getElem?_map, List.getElem?_map]
    by_cases h : k < σ.1
    · rw [List.getElem?_range h]
      show some (E.1 + k, pw_cell E σ k) = some (E.1 + k, pw_cell E σ' k)
      rw [hc k hk]
    · rw [List.getElem?_eq_none (by rw [List.length_range]; omega)]
      rfl
theorem pw_va_P_setK {E : pw_E} {σ σ' : pw_Sto} {H : Heap} {o : Nat} {e : va_E} (hN : σ'.1 = σ.1) (ho : o < σ.1) (hc : ∀ j, j ≠ o → pw_cell E σ' j = pw_cell E σ j) (he : pw_cell E σ' o = e) (h : va_P E.2.1 pw_cl ((pw_ws E σ).set o (E.1 + o, e)) H) : va_P E.2.1 pw_cl (pw_ws E σ') H := by
  rw [pw_ws_set hN ho hc he] at h
  exact h
theorem pw_T.moved {E : pw_E} {u U : State} (hW : u.WarmedH U.vm) (h : pw_T E u) : pw_T E U := ⟨va_K.moved hW.alike h.1, fun w hw => pw_nest_warm hW hw (h.2 w hw)⟩
/-! the machine's context of a walk, in one: program .. code; the end; base, classes; the outcome; new cells, new slots -/
abbrev pw_X (α : Type) : Type := (Program × Launch × Env × Room × State × MethodId × Array Value × List Frame × Method × Code) × (State → Prop) × pw_E × (α × pw_Sto) × Nat × Nat
def pw_W {α : Type} (X : pw_X α) (H : Heap) (locs : List Loc) (cells slots : Nat) (g : JFrame) : Prop :=
  W X.1.1 X.1.2.1 X.1.2.2.1 X.1.2.2.2.1 X.1.2.2.2.2.1 X.1.2.2.2.2.2.1 X.1.2.2.2.2.2.2.1 X.1.2.2.2.2.2.2.2.1 X.1.2.2.2.2.2.2.2.2.1 X.1.2.2.2.2.2.2.2.2.2 H locs cells slots X.2.1 g
def pw_Sp {α : Type} (X : pw_X α) (cells slots pc : Nat) (L : List (Nat × Value)) (st : List Value) (σ : pw_Sto) (F : Option (α × pw_Sto)) : Prop :=
  F = some X.2.2.2.1 → X.2.2.1.1 + σ.1 = X.1.2.2.2.2.1.heap.size + cells → ∀ (H : Heap) (locs : List Loc) (ls : Array Slot), lv_has ls X.1.2.2.2.2.2.2.2.2.2.maxLocals (L.map (pw_trq X.2.2.1.1)) → pw_H X.2.2.1 σ H → va_S (fun q => X.2.2.1.1 ≤ q) X.1.2.2.2.2.1.heap H locs → pw_W X H locs cells slots (F0 X.1.2.2.2.2.2.1 pc ls (st.map (pw_tr X.2.2.1.1)))
/-- what a walk stands on: the machine, the bytes, the words, the room -/
def pw_Ok {α : Type} (X : pw_X α) (cc : ByteArray) (own : String) (rm : Room) (nL : Nat) : Prop :=
  X.1.1.tables.exec = Jvm.exec ∧ X.1.2.2.2.2.2.2.2.2.2.code = cc ∧ X.1.2.2.2.2.2.2.2.2.2.maxLocals = nL ∧ X.1.2.2.2.1 = rm ∧ X.1.2.2.2.2.1.vm.findClass own = some X.1.2.2.2.2.2.1.cls ∧ (∀ w ∈ pw_gt, w.before X.1.2.2.2.2.2.2.1 X.1.2.2.2.2.1 = true) ∧ pw_T X.2.2.1 X.1.2.2.2.2.1 ∧ X.2.2.1.1 ≤ X.1.2.2.2.2.1.heap.size ∧ X.2.2.2.2.1 = rm.cells ∧ X.2.2.2.2.2 = rm.slots
theorem pw_none {α : Type} {X : pw_X α} {cells slots pc : Nat} {L : List (Nat × Value)} {st : List Value} {σ : pw_Sto} : pw_Sp X cells slots pc L st σ none := fun h => by cases h
theorem pw_filt {b : Nat} {L : List (Nat × Value)} (P : Nat → Nat → Bool) : (L.map (pw_trq b)).filter (fun q => P q.1 q.2.category) = (L.filter (fun q => P q.1 q.2.category)).map (pw_trq b) := by
  rw [List.filter_map]
  congr 1
  apply congrArg (fun f => List.filter f L)
  funext q
  show P q.1 (pw_tr b q.2).category = P q.1 q.2.category
  rw [pw_tr_cat]
theorem pw_hasEq {ls : Array Slot} {n : Nat} {l l' : List (Nat × Value)} (h : l = l') (k : lv_has ls n l) : lv_has ls n l' := h ▸ k
def pw_st1 (i : Nat) (v : Value) (L : List (Nat × Value)) : List (Nat × Value) := (i, v) :: L.filter (fun q => !(q.1 == i) && !(q.1 + 1 == i && q.2.category == 2))
def pw_st2 (i : Nat) (v : Value) (L : List (Nat × Value)) : List (Nat × Value) := (i, v) :: L.filter (fun q => !(q.1 == i) && (!(q.1 == i + 1) && !(q.1 + 1 == i && q.2.category == 2)))
theorem pw_st1_eq {b i : Nat} {v : Value} {L L' : List (Nat × Value)} (h : pw_st1 i v L = L') : (i, pw_tr b v) :: (L.map (pw_trq b)).filter (fun q => !(q.1 == i) && !(q.1 + 1 == i && q.2.category == 2)) = L'.map (pw_trq b) := by
  rw [← h]
  unfold pw_st1
  rw [List.map_cons]
  exact congrArg (fun l => (i, pw_tr b v) :: l) (pw_filt (fun k c => !(k == i) && !(k + 1 == i && c == 2)))
theorem pw_st2_eq {b i : Nat} {v : Value} {L L' : List (Nat × Value)} (h : pw_st2 i v L = L') : (i, pw_tr b v) :: (L.map (pw_trq b)).filter (fun q => !(q.1 == i) && (!(q.1 == i + 1) && !(q.1 + 1 == i && q.2.category == 2))) = L'.map (pw_trq b) := by
  rw [← h]
  unfold pw_st2
  rw [List.map_cons]
  exact congrArg (fun l => (i, pw_tr b v) :: l) (pw_filt (fun k c => !(k == i) && (!(k == i + 1) && !(k + 1 == i && c == 2))))
theorem pw_at {b : Nat} {L : List (Nat × Value)} {k i : Nat} {v : Value} (h : L[k]? = some (i, v)) : (L.map (pw_trq b))[k]? = some (i, pw_tr b v) := by
  rw [List.getElem?_map, h]
  rfl
section PWR
variable {α : Type} {X : pw_X α} {cc : ByteArray} {own : String} {rm : Room} {nL cells slots pc : Nat} {L L' : List (Nat × Value)} {st : List Value} {σ : pw_Sto} {F : Option (α × pw_Sto)}
theorem sp_iconst (hX : pw_Ok X cc own rm nL) {n : Int} (v : Int32) (hv : Int32.ofInt n = v) (d : decode cc pc = .ok (.iconst n, 1)) (K : pw_Sp X cells slots (pc + 1) L (.int v :: st) σ F) : pw_Sp X cells slots pc L (st) σ F := by
  obtain ⟨⟨p, l, e, R, s, m, args, below, meth, c⟩, Q, ⟨b, D, c1, c2, c3⟩, out, mc, ms⟩ := X
  intro hF hN H locs ls hl hH hS
  exact lv_iconst hX.1 hX.2.1 d hv (K hF hN H locs ls hl hH hS)
theorem sp_bipush (hX : pw_Ok X cc own rm nL) {n : Int} (v : Int32) (hv : (Int8.ofInt n).toInt32 = v) (d : decode cc pc = .ok (.bipush n, 2)) (K : pw_Sp X cells slots (pc + 2) L (.int v :: st) σ F) : pw_Sp X cells slots pc L (st) σ F := by
  obtain ⟨⟨p, l, e, R, s, m, args, below, meth, c⟩, Q, ⟨b, D, c1, c2, c3⟩, out, mc, ms⟩ := X
  intro hF hN H locs ls hl hH hS
  exact lv_bipush hX.1 hX.2.1 d hv (K hF hN H locs ls hl hH hS)
theorem sp_sipush (hX : pw_Ok X cc own rm nL) {n : Int} (v : Int32) (hv : (Int16.ofInt n).toInt32 = v) (d : decode cc pc = .ok (.sipush n, 3)) (K : pw_Sp X cells slots (pc + 3) L (.int v :: st) σ F) : pw_Sp X cells slots pc L (st) σ F := by
  obtain ⟨⟨p, l, e, R, s, m, args, below, meth, c⟩, Q, ⟨b, D, c1, c2, c3⟩, out, mc, ms⟩ := X
  intro hF hN H locs ls hl hH hS
  exact lv_sipush hX.1 hX.2.1 d hv (K hF hN H locs ls hl hH hS)
theorem sp_ldc2 (hX : pw_Ok X cc own rm nL) {i : Nat} (v : Int64) (hw : Cond.constantLong own i v ∈ pw_gt) (d : decode cc pc = .ok (.ldc2_w i, 3)) (K : pw_Sp X cells slots (pc + 3) L (.long v :: st) σ F) : pw_Sp X cells slots pc L (st) σ F := by
  obtain ⟨⟨p, l, e, R, s, m, args, below, meth, c⟩, Q, ⟨b, D, c1, c2, c3⟩, out, mc, ms⟩ := X
  intro hF hN H locs ls hl hH hS
  exact lv_ldc2 hX.1 hX.2.1 hX.2.2.2.2.1 (hX.2.2.2.2.2.1 _ hw) d (K hF hN H locs ls hl hH hS)
theorem sp_iload_n (hX : pw_Ok X cc own rm nL) {k : Fin 4} {i : Nat} {x : Int32} (hi : (k : Nat) = i) (j : Nat) (hj : L[j]? = some (i, .int x)) (d : decode cc pc = .ok (.iload_n k, 1)) (K : pw_Sp X cells slots (pc + 1) L (.int x :: st) σ F) : pw_Sp X cells slots pc L (st) σ F := by
  obtain ⟨⟨p, l, e, R, s, m, args, below, meth, c⟩, Q, ⟨b, D, c1, c2, c3⟩, out, mc, ms⟩ := X
  intro hF hN H locs ls hl hH hS
  exact lv_iload_n hX.1 hX.2.1 d hi (lv_at hl j (pw_at hj)) (K hF hN H locs ls hl hH hS)
theorem sp_iload (hX : pw_Ok X cc own rm nL) {i : Nat} {x : Int32} (j : Nat) (hj : L[j]? = some (i, .int x)) (d : decode cc pc = .ok (.iload i, 2)) (K : pw_Sp X cells slots (pc + 2) L (.int x :: st) σ F) : pw_Sp X cells slots pc L (st) σ F := by
  obtain ⟨⟨p, l, e, R, s, m, args, below, meth, c⟩, Q, ⟨b, D, c1, c2, c3⟩, out, mc, ms⟩ := X
  intro hF hN H locs ls hl hH hS
  exact lv_iload hX.1 hX.2.1 d (lv_at hl j (pw_at hj)) (K hF hN H locs ls hl hH hS)
theorem sp_lload_n (hX : pw_Ok X cc own rm nL) {k : Fin 4} {i : Nat} {x : Int64} (hi : (k : Nat) = i) (j : Nat) (hj : L[j]? = some (i, .long x)) (d : decode cc pc = .ok (.lload_n k, 1)) (K : pw_Sp X cells slots (pc + 1) L (.long x :: st) σ F) : pw_Sp X cells slots pc L (st) σ F := by
  obtain ⟨⟨p, l, e, R, s, m, args, below, meth, c⟩, Q, ⟨b, D, c1, c2, c3⟩, out, mc, ms⟩ := X
  intro hF hN H locs ls hl hH hS
  exact lv_lload_n hX.1 hX.2.1 d hi (lv_at hl j (pw_at hj)) (K hF hN H locs ls hl hH hS)
theorem sp_lload (hX : pw_Ok X cc own rm nL) {i : Nat} {x : Int64} (j : Nat) (hj : L[j]? = some (i, .long x)) (d : decode cc pc = .ok (.lload i, 2)) (K : pw_Sp X cells slots (pc + 2) L (.long x :: st) σ F) : pw_Sp X cells slots pc L (st) σ F := by
  obtain ⟨⟨p, l, e, R, s, m, args, below, meth, c⟩, Q, ⟨b, D, c1, c2, c3⟩, out, mc, ms⟩ := X
  intro hF hN H locs ls hl hH hS
  exact lv_lload hX.1 hX.2.1 d (lv_at hl j (pw_at hj)) (K hF hN H locs ls hl hH hS)
theorem sp_aload_n (hX : pw_Ok X cc own rm nL) {k : Fin 4} {i : Nat} {x : Nat} (hi : (k : Nat) = i) (j : Nat) (hj : L[j]? = some (i, .ref x)) (d : decode cc pc = .ok (.aload_n k, 1)) (K : pw_Sp X cells slots (pc + 1) L (.ref x :: st) σ F) : pw_Sp X cells slots pc L (st) σ F := by
  obtain ⟨⟨p, l, e, R, s, m, args, below, meth, c⟩, Q, ⟨b, D, c1, c2, c3⟩, out, mc, ms⟩ := X
  intro hF hN H locs ls hl hH hS
  exact lv_aload_n hX.1 hX.2.1 d hi (lv_at hl j (pw_at hj)) (K hF hN H locs ls hl hH hS)
theorem sp_aload (hX : pw_Ok X cc own rm nL) {i : Nat} {x : Nat} (j : Nat) (hj : L[j]? = some (i, .ref x)) (d : decode cc pc = .ok (.aload i, 2)) (K : pw_Sp X cells slots (pc + 2) L (.ref x :: st) σ F) : pw_Sp X cells slots pc L (st) σ F := by
  obtain ⟨⟨p, l, e, R, s, m, args, below, meth, c⟩, Q, ⟨b, D, c1, c2, c3⟩, out, mc, ms⟩ := X
  intro hF hN H locs ls hl hH hS
  exact lv_aload hX.1 hX.2.1 d (lv_at hl j (pw_at hj)) (K hF hN H locs ls hl hH hS)
theorem sp_xload_n (hX : pw_Ok X cc own rm nL) {k : Fin 4} {i : Nat} {x : Nat} (hi : (k : Nat) = i) (j : Nat) (hj : L[j]? = some (i, .retAddr x)) (d : decode cc pc = .ok (.aload_n k, 1)) (K : pw_Sp X cells slots (pc + 1) L (.retAddr x :: st) σ F) : pw_Sp X cells slots pc L (st) σ F := by
  obtain ⟨⟨p, l, e, R, s, m, args, below, meth, c⟩, Q, ⟨b, D, c1, c2, c3⟩, out, mc, ms⟩ := X
  intro hF hN H locs ls hl hH hS
  exact lv_aload_n hX.1 hX.2.1 d hi (lv_at hl j (pw_at hj)) (K hF hN H locs ls hl hH hS)
theorem sp_istore_n (hX : pw_Ok X cc own rm nL) {k : Fin 4} {i : Nat} {x : Int32} (hi : (k : Nat) = i) (hn : i < nL) (hL : pw_st1 i (.int x) L = L') (d : decode cc pc = .ok (.istore_n k, 1)) (K : pw_Sp X cells slots (pc + 1) L' st σ F) : pw_Sp X cells slots pc L (.int x :: st) σ F := by
  obtain ⟨⟨p, l, e, R, s, m, args, below, meth, c⟩, Q, ⟨b, D, c1, c2, c3⟩, out, mc, ms⟩ := X
  intro hF hN H locs ls hl hH hS
  exact lv_istore_n hX.1 hX.2.1 d hi hl (by rw [hX.2.2.1]; exact hn) (pw_st1_eq (b := b) hL) (fun ls hl => K hF hN H locs ls hl hH hS)
theorem sp_istore (hX : pw_Ok X cc own rm nL) {i : Nat} {x : Int32} (hn : i < nL) (hL : pw_st1 i (.int x) L = L') (d : decode cc pc = .ok (.istore i, 2)) (K : pw_Sp X cells slots (pc + 2) L' st σ F) : pw_Sp X cells slots pc L (.int x :: st) σ F := by
  obtain ⟨⟨p, l, e, R, s, m, args, below, meth, c⟩, Q, ⟨b, D, c1, c2, c3⟩, out, mc, ms⟩ := X
  intro hF hN H locs ls hl hH hS
  exact lv_istore hX.1 hX.2.1 d hl (by rw [hX.2.2.1]; exact hn) (pw_st1_eq (b := b) hL) (fun ls hl => K hF hN H locs ls hl hH hS)
theorem sp_lstore_n (hX : pw_Ok X cc own rm nL) {k : Fin 4} {i : Nat} {x : Int64} (hi : (k : Nat) = i) (hn : i + 1 < nL) (hL : pw_st2 i (.long x) L = L') (d : decode cc pc = .ok (.lstore_n k, 1)) (K : pw_Sp X cells slots (pc + 1) L' st σ F) : pw_Sp X cells slots pc L (.long x :: st) σ F := by
  obtain ⟨⟨p, l, e, R, s, m, args, below, meth, c⟩, Q, ⟨b, D, c1, c2, c3⟩, out, mc, ms⟩ := X
  intro hF hN H locs ls hl hH hS
  exact lv_lstore_n hX.1 hX.2.1 d hi hl (by rw [hX.2.2.1]; exact hn) (pw_st2_eq (b := b) hL) (fun ls hl => K hF hN H locs ls hl hH hS)
theorem sp_lstore (hX : pw_Ok X cc own rm nL) {i : Nat} {x : Int64} (hn : i + 1 < nL) (hL : pw_st2 i (.long x) L = L') (d : decode cc pc = .ok (.lstore i, 2)) (K : pw_Sp X cells slots (pc + 2) L' st σ F) : pw_Sp X cells slots pc L (.long x :: st) σ F := by
  obtain ⟨⟨p, l, e, R, s, m, args, below, meth, c⟩, Q, ⟨b, D, c1, c2, c3⟩, out, mc, ms⟩ := X
  intro hF hN H locs ls hl hH hS
  exact lv_lstore hX.1 hX.2.1 d hl (by rw [hX.2.2.1]; exact hn) (pw_st2_eq (b := b) hL) (fun ls hl => K hF hN H locs ls hl hH hS)
theorem sp_astore_n (hX : pw_Ok X cc own rm nL) {k : Fin 4} {i : Nat} {x : Nat} (hi : (k : Nat) = i) (hn : i < nL) (hL : pw_st1 i (.ref x) L = L') (d : decode cc pc = .ok (.astore_n k, 1)) (K : pw_Sp X cells slots (pc + 1) L' st σ F) : pw_Sp X cells slots pc L (.ref x :: st) σ F := by
  obtain ⟨⟨p, l, e, R, s, m, args, below, meth, c⟩, Q, ⟨b, D, c1, c2, c3⟩, out, mc, ms⟩ := X
  intro hF hN H locs ls hl hH hS
  exact lv_astore_n hX.1 hX.2.1 d hi hl (by rw [hX.2.2.1]; exact hn) (pw_st1_eq (b := b) hL) (fun ls hl => K hF hN H locs ls hl hH hS)
theorem sp_astore (hX : pw_Ok X cc own rm nL) {i : Nat} {x : Nat} (hn : i < nL) (hL : pw_st1 i (.ref x) L = L') (d : decode cc pc = .ok (.astore i, 2)) (K : pw_Sp X cells slots (pc + 2) L' st σ F) : pw_Sp X cells slots pc L (.ref x :: st) σ F := by
  obtain ⟨⟨p, l, e, R, s, m, args, below, meth, c⟩, Q, ⟨b, D, c1, c2, c3⟩, out, mc, ms⟩ := X
  intro hF hN H locs ls hl hH hS
  exact lv_astore hX.1 hX.2.1 d hl (by rw [hX.2.2.1]; exact hn) (pw_st1_eq (b := b) hL) (fun ls hl => K hF hN H locs ls hl hH hS)
theorem sp_iinc (hX : pw_Ok X cc own rm nL) {i : Nat} {n : Int} {x : Int32} (v : Int32) (j : Nat) (hj : L[j]? = some (i, .int x)) (hv : x + Int32.ofInt n = v) (hn : i < nL) (hL : pw_st1 i (.int v) L = L') (d : decode cc pc = .ok (.iinc i n, 3)) (K : pw_Sp X cells slots (pc + 3) L' st σ F) : pw_Sp X cells slots pc L st σ F := by
  obtain ⟨⟨p, l, e, R, s, m, args, below, meth, c⟩, Q, ⟨b, D, c1, c2, c3⟩, out, mc, ms⟩ := X
  intro hF hN H locs ls hl hH hS
  exact lv_iinc hX.1 hX.2.1 d hl (k := j) (pw_at hj) hv (by rw [hX.2.2.1]; exact hn) (pw_st1_eq (b := b) hL) (fun ls hl => K hF hN H locs ls hl hH hS)
theorem sp_iadd (hX : pw_Ok X cc own rm nL) {x y : Int32} (d : decode cc pc = .ok (.iadd, 1)) (K : pw_Sp X cells slots (pc + 1) L (.int (x + y) :: st) σ F) : pw_Sp X cells slots pc L (.int y :: .int x :: st) σ F := by
  obtain ⟨⟨p, l, e, R, s, m, args, below, meth, c⟩, Q, ⟨b, D, c1, c2, c3⟩, out, mc, ms⟩ := X
  intro hF hN H locs ls hl hH hS
  exact lv_iadd hX.1 hX.2.1 d (K hF hN H locs ls hl hH hS)
theorem sp_isub (hX : pw_Ok X cc own rm nL) {x y : Int32} (d : decode cc pc = .ok (.isub, 1)) (K : pw_Sp X cells slots (pc + 1) L (.int (x - y) :: st) σ F) : pw_Sp X cells slots pc L (.int y :: .int x :: st) σ F := by
  obtain ⟨⟨p, l, e, R, s, m, args, below, meth, c⟩, Q, ⟨b, D, c1, c2, c3⟩, out, mc, ms⟩ := X
  intro hF hN H locs ls hl hH hS
  exact lv_isub hX.1 hX.2.1 d (K hF hN H locs ls hl hH hS)
theorem sp_imul (hX : pw_Ok X cc own rm nL) {x y : Int32} (d : decode cc pc = .ok (.imul, 1)) (K : pw_Sp X cells slots (pc + 1) L (.int (x * y) :: st) σ F) : pw_Sp X cells slots pc L (.int y :: .int x :: st) σ F := by
  obtain ⟨⟨p, l, e, R, s, m, args, below, meth, c⟩, Q, ⟨b, D, c1, c2, c3⟩, out, mc, ms⟩ := X
  intro hF hN H locs ls hl hH hS
  exact lv_imul hX.1 hX.2.1 d (K hF hN H locs ls hl hH hS)
theorem sp_iand (hX : pw_Ok X cc own rm nL) {x y : Int32} (d : decode cc pc = .ok (.iand, 1)) (K : pw_Sp X cells slots (pc + 1) L (.int (x &&& y) :: st) σ F) : pw_Sp X cells slots pc L (.int y :: .int x :: st) σ F := by
  obtain ⟨⟨p, l, e, R, s, m, args, below, meth, c⟩, Q, ⟨b, D, c1, c2, c3⟩, out, mc, ms⟩ := X
  intro hF hN H locs ls hl hH hS
  exact lv_iand hX.1 hX.2.1 d (K hF hN H locs ls hl hH hS)
theorem sp_ishr (hX : pw_Ok X cc own rm nL) {x y : Int32} (d : decode cc pc = .ok (.ishr, 1)) (K : pw_Sp X cells slots (pc + 1) L (.int (x >>> (y &&& 31)) :: st) σ F) : pw_Sp X cells slots pc L (.int y :: .int x :: st) σ F := by
  obtain ⟨⟨p, l, e, R, s, m, args, below, meth, c⟩, Q, ⟨b, D, c1, c2, c3⟩, out, mc, ms⟩ := X
  intro hF hN H locs ls hl hH hS
  exact lv_ishr hX.1 hX.2.1 d (K hF hN H locs ls hl hH hS)
theorem sp_ladd (hX : pw_Ok X cc own rm nL) {x y : Int64} (d : decode cc pc = .ok (.ladd, 1)) (K : pw_Sp X cells slots (pc + 1) L (.long (x + y) :: st) σ F) : pw_Sp X cells slots pc L (.long y :: .long x :: st) σ F := by
  obtain ⟨⟨p, l, e, R, s, m, args, below, meth, c⟩, Q, ⟨b, D, c1, c2, c3⟩, out, mc, ms⟩ := X
  intro hF hN H locs ls hl hH hS
  exact lv_ladd hX.1 hX.2.1 d (K hF hN H locs ls hl hH hS)
theorem sp_lmul (hX : pw_Ok X cc own rm nL) {x y : Int64} (d : decode cc pc = .ok (.lmul, 1)) (K : pw_Sp X cells slots (pc + 1) L (.long (x * y) :: st) σ F) : pw_Sp X cells slots pc L (.long y :: .long x :: st) σ F := by
  obtain ⟨⟨p, l, e, R, s, m, args, below, meth, c⟩, Q, ⟨b, D, c1, c2, c3⟩, out, mc, ms⟩ := X
  intro hF hN H locs ls hl hH hS
  exact lv_lmul hX.1 hX.2.1 d (K hF hN H locs ls hl hH hS)
theorem sp_ineg (hX : pw_Ok X cc own rm nL) {x : Int32} (d : decode cc pc = .ok (.ineg, 1)) (K : pw_Sp X cells slots (pc + 1) L (.int (-x) :: st) σ F) : pw_Sp X cells slots pc L (.int x :: st) σ F := by
  obtain ⟨⟨p, l, e, R, s, m, args, below, meth, c⟩, Q, ⟨b, D, c1, c2, c3⟩, out, mc, ms⟩ := X
  intro hF hN H locs ls hl hH hS
  exact lv_ineg hX.1 hX.2.1 d (K hF hN H locs ls hl hH hS)
theorem sp_i2l (hX : pw_Ok X cc own rm nL) {x : Int32} (d : decode cc pc = .ok (.i2l, 1)) (K : pw_Sp X cells slots (pc + 1) L (.long x.toInt64 :: st) σ F) : pw_Sp X cells slots pc L (.int x :: st) σ F := by
  obtain ⟨⟨p, l, e, R, s, m, args, below, meth, c⟩, Q, ⟨b, D, c1, c2, c3⟩, out, mc, ms⟩ := X
  intro hF hN H locs ls hl hH hS
  exact lv_i2l hX.1 hX.2.1 d rfl (K hF hN H locs ls hl hH hS)
theorem sp_lcmp (hX : pw_Ok X cc own rm nL) {x y : Int64} (d : decode cc pc = .ok (.lcmp, 1)) (K : pw_Sp X cells slots (pc + 1) L (.int (lg_cmp x y) :: st) σ F) : pw_Sp X cells slots pc L (.long y :: .long x :: st) σ F := by
  obtain ⟨⟨p, l, e, R, s, m, args, below, meth, c⟩, Q, ⟨b, D, c1, c2, c3⟩, out, mc, ms⟩ := X
  intro hF hN H locs ls hl hH hS
  exact W.lcmp hX.1 hX.2.1 d (K hF hN H locs ls hl hH hS)
theorem sp_dup (hX : pw_Ok X cc own rm nL) {v : Value} (hv : v.category = 1) (d : decode cc pc = .ok (.dup, 1)) (K : pw_Sp X cells slots (pc + 1) L (v :: v :: st) σ F) : pw_Sp X cells slots pc L (v :: st) σ F := by
  obtain ⟨⟨p, l, e, R, s, m, args, below, meth, c⟩, Q, ⟨b, D, c1, c2, c3⟩, out, mc, ms⟩ := X
  intro hF hN H locs ls hl hH hS
  exact lv_dup hX.1 hX.2.1 d (by rw [pw_tr_cat]; exact hv) (K hF hN H locs ls hl hH hS)
theorem sp_dup2 (hX : pw_Ok X cc own rm nL) {v w : Value} (hv : v.category = 1) (hw : w.category = 1) (d : decode cc pc = .ok (.dup2, 1)) (K : pw_Sp X cells slots (pc + 1) L (v :: w :: v :: w :: st) σ F) : pw_Sp X cells slots pc L (v :: w :: st) σ F := by
  obtain ⟨⟨p, l, e, R, s, m, args, below, meth, c⟩, Q, ⟨b, D, c1, c2, c3⟩, out, mc, ms⟩ := X
  intro hF hN H locs ls hl hH hS
  exact lv_dup2_11 hX.1 hX.2.1 d (by rw [pw_tr_cat]; exact hv) (by rw [pw_tr_cat]; exact hw) (K hF hN H locs ls hl hH hS)
theorem sp_pop (hX : pw_Ok X cc own rm nL) {v : Value} (hv : v.category = 1) (d : decode cc pc = .ok (.pop, 1)) (K : pw_Sp X cells slots (pc + 1) L (st) σ F) : pw_Sp X cells slots pc L (v :: st) σ F := by
  obtain ⟨⟨p, l, e, R, s, m, args, below, meth, c⟩, Q, ⟨b, D, c1, c2, c3⟩, out, mc, ms⟩ := X
  intro hF hN H locs ls hl hH hS
  exact lv_pop hX.1 hX.2.1 d (by rw [pw_tr_cat]; exact hv) (K hF hN H locs ls hl hH hS)
theorem sp_goto (hX : pw_Ok X cc own rm nL) {off : Int} (tgt : Nat) (ht : (pc : Int) + off = (tgt : Int)) (d : decode cc pc = .ok (.goto off, 3)) (K : pw_Sp X cells slots tgt L st σ F) : pw_Sp X cells slots pc L st σ F := by
  obtain ⟨⟨p, l, e, R, s, m, args, below, meth, c⟩, Q, ⟨b, D, c1, c2, c3⟩, out, mc, ms⟩ := X
  intro hF hN H locs ls hl hH hS
  exact lv_goto hX.1 hX.2.1 d ht (K hF hN H locs ls hl hH hS)
def pw_rem (x y : Int32) : Option Int32 := if y = 0 then none else some (x - x / y * y)
theorem sp_irem (hX : pw_Ok X cc own rm nL) {x y : Int32} {g : Int32 → Option (α × pw_Sto)} (d : decode cc pc = .ok (.irem, 1)) (K : ∀ v, pw_Sp X cells slots (pc + 1) L (.int v :: st) σ (g v)) : pw_Sp X cells slots pc L (.int y :: .int x :: st) σ ((pw_rem x y).bind g) := by
  obtain ⟨⟨p, l, e, R, s, m, args, below, meth, c⟩, Q, ⟨b, D, c1, c2, c3⟩, out, mc, ms⟩ := X
  intro hF hN H locs ls hl hH hS
  by_cases h : y = 0
  · rw [pw_rem, if_pos h] at hF; cases hF
  · rw [pw_rem, if_neg h] at hF
    exact lv_irem hX.1 hX.2.1 d h (K _ hF hN H locs ls hl hH hS)
theorem sp_if_eq (hX : pw_Ok X cc own rm nL) {x : Int32} {off : Int} (tgt : Nat) {G1 G2 : Option (α × pw_Sto)} (ht : (pc : Int) + off = (tgt : Int)) (d : decode cc pc = .ok (.ifCond .eq off, 3)) (K1 : x = 0 → pw_Sp X cells slots tgt L st σ G1) (K2 : ¬ x = 0 → pw_Sp X cells slots (pc + 3) L st σ G2) : pw_Sp X cells slots pc L (.int x :: st) σ (if x = 0 then G1 else G2) := by
  obtain ⟨⟨p, l, e, R, s, m, args, below, meth, c⟩, Q, ⟨b, D, c1, c2, c3⟩, out, mc, ms⟩ := X
  intro hF hN H locs ls hl hH hS
  refine lv_if_eq hX.1 hX.2.1 d ht (fun h => ?_) (fun h => ?_)
  · rw [if_pos h] at hF; exact K1 h hF hN H locs ls hl hH hS
  · rw [if_neg h] at hF; exact K2 h hF hN H locs ls hl hH hS
theorem sp_icmp_eq (hX : pw_Ok X cc own rm nL) {x y : Int32} {off : Int} (tgt : Nat) {G1 G2 : Option (α × pw_Sto)} (ht : (pc : Int) + off = (tgt : Int)) (d : decode cc pc = .ok (.if_icmp .eq off, 3)) (K1 : x = y → pw_Sp X cells slots tgt L st σ G1) (K2 : ¬ x = y → pw_Sp X cells slots (pc + 3) L st σ G2) : pw_Sp X cells slots pc L (.int y :: .int x :: st) σ (if x = y then G1 else G2) := by
  obtain ⟨⟨p, l, e, R, s, m, args, below, meth, c⟩, Q, ⟨b, D, c1, c2, c3⟩, out, mc, ms⟩ := X
  intro hF hN H locs ls hl hH hS
  refine lv_icmp_eq hX.1 hX.2.1 d ht (fun h => ?_) (fun h => ?_)
  · rw [if_pos h] at hF; exact K1 h hF hN H locs ls hl hH hS
  · rw [if_neg h] at hF; exact K2 h hF hN H locs ls hl hH hS
theorem sp_if_ne (hX : pw_Ok X cc own rm nL) {x : Int32} {off : Int} (tgt : Nat) {G1 G2 : Option (α × pw_Sto)} (ht : (pc : Int) + off = (tgt : Int)) (d : decode cc pc = .ok (.ifCond .ne off, 3)) (K2 : x = 0 → pw_Sp X cells slots (pc + 3) L st σ G2) (K1 : ¬ x = 0 → pw_Sp X cells slots tgt L st σ G1) : pw_Sp X cells slots pc L (.int x :: st) σ (if x = 0 then G2 else G1) := by
  obtain ⟨⟨p, l, e, R, s, m, args, below, meth, c⟩, Q, ⟨b, D, c1, c2, c3⟩, out, mc, ms⟩ := X
  intro hF hN H locs ls hl hH hS
  refine lv_if_ne hX.1 hX.2.1 d ht (fun h => ?_) (fun h => ?_)
  · rw [if_neg h] at hF; exact K1 h hF hN H locs ls hl hH hS
  · rw [if_pos h] at hF; exact K2 h hF hN H locs ls hl hH hS
theorem sp_icmp_ne (hX : pw_Ok X cc own rm nL) {x y : Int32} {off : Int} (tgt : Nat) {G1 G2 : Option (α × pw_Sto)} (ht : (pc : Int) + off = (tgt : Int)) (d : decode cc pc = .ok (.if_icmp .ne off, 3)) (K2 : x = y → pw_Sp X cells slots (pc + 3) L st σ G2) (K1 : ¬ x = y → pw_Sp X cells slots tgt L st σ G1) : pw_Sp X cells slots pc L (.int y :: .int x :: st) σ (if x = y then G2 else G1) := by
  obtain ⟨⟨p, l, e, R, s, m, args, below, meth, c⟩, Q, ⟨b, D, c1, c2, c3⟩, out, mc, ms⟩ := X
  intro hF hN H locs ls hl hH hS
  refine lv_icmp_ne hX.1 hX.2.1 d ht (fun h => ?_) (fun h => ?_)
  · rw [if_neg h] at hF; exact K1 h hF hN H locs ls hl hH hS
  · rw [if_pos h] at hF; exact K2 h hF hN H locs ls hl hH hS
theorem sp_if_lt (hX : pw_Ok X cc own rm nL) {x : Int32} {off : Int} (tgt : Nat) {G1 G2 : Option (α × pw_Sto)} (ht : (pc : Int) + off = (tgt : Int)) (d : decode cc pc = .ok (.ifCond .lt off, 3)) (K1 : x < 0 → pw_Sp X cells slots tgt L st σ G1) (K2 : ¬ x < 0 → pw_Sp X cells slots (pc + 3) L st σ G2) : pw_Sp X cells slots pc L (.int x :: st) σ (if x < 0 then G1 else G2) := by
  obtain ⟨⟨p, l, e, R, s, m, args, below, meth, c⟩, Q, ⟨b, D, c1, c2, c3⟩, out, mc, ms⟩ := X
  intro hF hN H locs ls hl hH hS
  refine lv_if_lt hX.1 hX.2.1 d ht (fun h => ?_) (fun h => ?_)
  · rw [if_pos h] at hF; exact K1 h hF hN H locs ls hl hH hS
  · rw [if_neg h] at hF; exact K2 h hF hN H locs ls hl hH hS
theorem sp_icmp_lt (hX : pw_Ok X cc own rm nL) {x y : Int32} {off : Int} (tgt : Nat) {G1 G2 : Option (α × pw_Sto)} (ht : (pc : Int) + off = (tgt : Int)) (d : decode cc pc = .ok (.if_icmp .lt off, 3)) (K1 : x < y → pw_Sp X cells slots tgt L st σ G1) (K2 : ¬ x < y → pw_Sp X cells slots (pc + 3) L st σ G2) : pw_Sp X cells slots pc L (.int y :: .int x :: st) σ (if x < y then G1 else G2) := by
  obtain ⟨⟨p, l, e, R, s, m, args, below, meth, c⟩, Q, ⟨b, D, c1, c2, c3⟩, out, mc, ms⟩ := X
  intro hF hN H locs ls hl hH hS
  refine lv_icmp_lt hX.1 hX.2.1 d ht (fun h => ?_) (fun h => ?_)
  · rw [if_pos h] at hF; exact K1 h hF hN H locs ls hl hH hS
  · rw [if_neg h] at hF; exact K2 h hF hN H locs ls hl hH hS
theorem sp_if_ge (hX : pw_Ok X cc own rm nL) {x : Int32} {off : Int} (tgt : Nat) {G1 G2 : Option (α × pw_Sto)} (ht : (pc : Int) + off = (tgt : Int)) (d : decode cc pc = .ok (.ifCond .ge off, 3)) (K1 : 0 ≤ x → pw_Sp X cells slots tgt L st σ G1) (K2 : ¬ 0 ≤ x → pw_Sp X cells slots (pc + 3) L st σ G2) : pw_Sp X cells slots pc L (.int x :: st) σ (if 0 ≤ x then G1 else G2) := by
  obtain ⟨⟨p, l, e, R, s, m, args, below, meth, c⟩, Q, ⟨b, D, c1, c2, c3⟩, out, mc, ms⟩ := X
  intro hF hN H locs ls hl hH hS
  refine lv_if_ge hX.1 hX.2.1 d ht (fun h => ?_) (fun h => ?_)
  · rw [if_pos h] at hF; exact K1 h hF hN H locs ls hl hH hS
  · rw [if_neg h] at hF; exact K2 h hF hN H locs ls hl hH hS
theorem sp_icmp_ge (hX : pw_Ok X cc own rm nL) {x y : Int32} {off : Int} (tgt : Nat) {G1 G2 : Option (α × pw_Sto)} (ht : (pc : Int) + off = (tgt : Int)) (d : decode cc pc = .ok (.if_icmp .ge off, 3)) (K1 : y ≤ x → pw_Sp X cells slots tgt L st σ G1) (K2 : ¬ y ≤ x → pw_Sp X cells slots (pc + 3) L st σ G2) : pw_Sp X cells slots pc L (.int y :: .int x :: st) σ (if y ≤ x then G1 else G2) := by
  obtain ⟨⟨p, l, e, R, s, m, args, below, meth, c⟩, Q, ⟨b, D, c1, c2, c3⟩, out, mc, ms⟩ := X
  intro hF hN H locs ls hl hH hS
  refine lv_icmp_ge hX.1 hX.2.1 d ht (fun h => ?_) (fun h => ?_)
  · rw [if_pos h] at hF; exact K1 h hF hN H locs ls hl hH hS
  · rw [if_neg h] at hF; exact K2 h hF hN H locs ls hl hH hS
theorem sp_if_gt (hX : pw_Ok X cc own rm nL) {x : Int32} {off : Int} (tgt : Nat) {G1 G2 : Option (α × pw_Sto)} (ht : (pc : Int) + off = (tgt : Int)) (d : decode cc pc = .ok (.ifCond .gt off, 3)) (K1 : 0 < x → pw_Sp X cells slots tgt L st σ G1) (K2 : ¬ 0 < x → pw_Sp X cells slots (pc + 3) L st σ G2) : pw_Sp X cells slots pc L (.int x :: st) σ (if 0 < x then G1 else G2) := by
  obtain ⟨⟨p, l, e, R, s, m, args, below, meth, c⟩, Q, ⟨b, D, c1, c2, c3⟩, out, mc, ms⟩ := X
  intro hF hN H locs ls hl hH hS
  refine lv_if_gt hX.1 hX.2.1 d ht (fun h => ?_) (fun h => ?_)
  · rw [if_pos h] at hF; exact K1 h hF hN H locs ls hl hH hS
  · rw [if_neg h] at hF; exact K2 h hF hN H locs ls hl hH hS
theorem sp_icmp_gt (hX : pw_Ok X cc own rm nL) {x y : Int32} {off : Int} (tgt : Nat) {G1 G2 : Option (α × pw_Sto)} (ht : (pc : Int) + off = (tgt : Int)) (d : decode cc pc = .ok (.if_icmp .gt off, 3)) (K1 : y < x → pw_Sp X cells slots tgt L st σ G1) (K2 : ¬ y < x → pw_Sp X cells slots (pc + 3) L st σ G2) : pw_Sp X cells slots pc L (.int y :: .int x :: st) σ (if y < x then G1 else G2) := by
  obtain ⟨⟨p, l, e, R, s, m, args, below, meth, c⟩, Q, ⟨b, D, c1, c2, c3⟩, out, mc, ms⟩ := X
  intro hF hN H locs ls hl hH hS
  refine lv_icmp_gt hX.1 hX.2.1 d ht (fun h => ?_) (fun h => ?_)
  · rw [if_pos h] at hF; exact K1 h hF hN H locs ls hl hH hS
  · rw [if_neg h] at hF; exact K2 h hF hN H locs ls hl hH hS
theorem sp_if_le (hX : pw_Ok X cc own rm nL) {x : Int32} {off : Int} (tgt : Nat) {G1 G2 : Option (α × pw_Sto)} (ht : (pc : Int) + off = (tgt : Int)) (d : decode cc pc = .ok (.ifCond .le off, 3)) (K1 : x ≤ 0 → pw_Sp X cells slots tgt L st σ G1) (K2 : ¬ x ≤ 0 → pw_Sp X cells slots (pc + 3) L st σ G2) : pw_Sp X cells slots pc L (.int x :: st) σ (if x ≤ 0 then G1 else G2) := by
  obtain ⟨⟨p, l, e, R, s, m, args, below, meth, c⟩, Q, ⟨b, D, c1, c2, c3⟩, out, mc, ms⟩ := X
  intro hF hN H locs ls hl hH hS
  refine lv_if_le hX.1 hX.2.1 d ht (fun h => ?_) (fun h => ?_)
  · rw [if_pos h] at hF; exact K1 h hF hN H locs ls hl hH hS
  · rw [if_neg h] at hF; exact K2 h hF hN H locs ls hl hH hS
theorem sp_icmp_le (hX : pw_Ok X cc own rm nL) {x y : Int32} {off : Int} (tgt : Nat) {G1 G2 : Option (α × pw_Sto)} (ht : (pc : Int) + off = (tgt : Int)) (d : decode cc pc = .ok (.if_icmp .le off, 3)) (K1 : x ≤ y → pw_Sp X cells slots tgt L st σ G1) (K2 : ¬ x ≤ y → pw_Sp X cells slots (pc + 3) L st σ G2) : pw_Sp X cells slots pc L (.int y :: .int x :: st) σ (if x ≤ y then G1 else G2) := by
  obtain ⟨⟨p, l, e, R, s, m, args, below, meth, c⟩, Q, ⟨b, D, c1, c2, c3⟩, out, mc, ms⟩ := X
  intro hF hN H locs ls hl hH hS
  refine lv_icmp_le hX.1 hX.2.1 d ht (fun h => ?_) (fun h => ?_)
  · rw [if_pos h] at hF; exact K1 h hF hN H locs ls hl hH hS
  · rw [if_neg h] at hF; exact K2 h hF hN H locs ls hl hH hS
theorem sp_sub (ks : List Nat) (hL : lv_pick L ks = L') (K : pw_Sp X cells slots pc L' st σ F) : pw_Sp X cells slots pc L st σ F := by
  intro hF hN H locs ls hl hH hS
  refine K hF hN H locs ls (lv_sub hl ks ?_) hH hS
  rw [← hL]
  unfold lv_pick
  rw [List.map_filterMap]
  congr 1
  funext k
  rw [List.getElem?_map]
end PWR
end
section
/-! ## reading and writing the store -/
def pw_is (σ : pw_Sto) (o c : Nat) : Prop := o < σ.1 ∧ (pw_sh o).1 = c
theorem pw_is_dec (σ : pw_Sto) (o c : Nat) : Nonempty (Decidable (pw_is σ o c)) := ⟨inferInstanceAs (Decidable (o < σ.1 ∧ (pw_sh o).1 = c))⟩
def pw_gi (c o k : Nat) (σ : pw_Sto) : Option Int32 := if o < σ.1 ∧ (pw_sh o).1 = c then some (σ.2.1 o k) else none
def pw_gr (c o k : Nat) (σ : pw_Sto) : Option Nat := if o < σ.1 ∧ (pw_sh o).1 = c then σ.2.2 o k else none
def pw_pi (c o k : Nat) (v : Int32) (σ : pw_Sto) : Option pw_Sto := if o < σ.1 ∧ (pw_sh o).1 = c then some (σ.1, pw_u2 σ.2.1 o k v, σ.2.2) else none
def pw_pr (c o k : Nat) (v : Nat) (σ : pw_Sto) : Option pw_Sto := if o < σ.1 ∧ (pw_sh o).1 = c then some (σ.1, σ.2.1, pw_u2 σ.2.2 o k (some v)) else none
def pw_ai (a : Nat) (i : Int32) (σ : pw_Sto) : Option Int32 := if (a < σ.1 ∧ (pw_sh a).1 = 11) ∧ (0 ≤ i ∧ i.toNatClampNeg < (pw_sh a).2) then some (σ.2.1 a i.toNatClampNeg) else none
def pw_ar (c a : Nat) (i : Int32) (σ : pw_Sto) : Option Nat := if (a < σ.1 ∧ (pw_sh a).1 = c) ∧ (0 ≤ i ∧ i.toNatClampNeg < (pw_sh a).2) then σ.2.2 a i.toNatClampNeg else none
def pw_si (a : Nat) (i v : Int32) (σ : pw_Sto) : Option pw_Sto := if (a < σ.1 ∧ (pw_sh a).1 = 11) ∧ (0 ≤ i ∧ i.toNatClampNeg < (pw_sh a).2) then some (σ.1, pw_u2 σ.2.1 a i.toNatClampNeg v, σ.2.2) else none
def pw_sr (c a : Nat) (i : Int32) (d v : Nat) (σ : pw_Sto) : Option pw_Sto := if ((a < σ.1 ∧ (pw_sh a).1 = c) ∧ (0 ≤ i ∧ i.toNatClampNeg < (pw_sh a).2)) ∧ (v < σ.1 ∧ (pw_sh v).1 = d) then some (σ.1, σ.2.1, pw_u2 σ.2.2 a i.toNatClampNeg (some v)) else none
def pw_al (a : Nat) (σ : pw_Sto) : Option Int32 := if a < σ.1 ∧ (pw_sh a).1 = 11 then some (Int32.ofNat (pw_sh a).2) else none
def pw_cp (a : Nat) (i : Int32) (d : Nat) (j n : Int32) (σ : pw_Sto) : Option pw_Sto :=
  if ((a < σ.1 ∧ (pw_sh a).1 = 11) ∧ (d < σ.1 ∧ (pw_sh d).1 = 11)) ∧ ((0 ≤ i ∧ 0 ≤ j ∧ 0 ≤ n) ∧ (i.toNatClampNeg + n.toNatClampNeg ≤ (pw_sh a).2 ∧ j.toNatClampNeg + n.toNatClampNeg ≤ (pw_sh d).2)) then
    some (σ.1, (fun q => if q = d then va_cpy (σ.2.1 a) (σ.2.1 d) i.toNatClampNeg j.toNatClampNeg n.toNatClampNeg else σ.2.1 q), σ.2.2) else none
def pw_gd {β : Type} (c o : Nat) (σ : pw_Sto) (F : Option β) : Option β := if o < σ.1 ∧ (pw_sh o).1 = c then F else none
theorem pw_cell_o {E : pw_E} {σ : pw_Sto} {o c : Nat} (h : (pw_sh o).1 = c) (h1 : c < 11) : pw_cell E σ o = .inr (c, pw_flds E.1 σ o (pw_ft c)) := by
  unfold pw_cell
  rw [h, if_neg (by omega), if_neg (by omega), if_neg (by omega)]
theorem pw_cell_i {E : pw_E} {σ : pw_Sto} {o : Nat} (h : (pw_sh o).1 = 11) : pw_cell E σ o = .inl (E.2.2.1, (pw_sh o).2, .inl (σ.2.1 o)) := by
  unfold pw_cell
  rw [if_pos h]
theorem pw_cell_s {E : pw_E} {σ : pw_Sto} {o : Nat} (h : (pw_sh o).1 = 12) : pw_cell E σ o = .inl (E.2.2.2.1, (pw_sh o).2, .inr (.inr (.inr (.inr (fun k => (σ.2.2 o k).map (fun j => E.1 + j)))))) := by
  unfold pw_cell
  rw [if_neg (by omega), if_pos h]
theorem pw_cell_g {E : pw_E} {σ : pw_Sto} {o : Nat} (h : (pw_sh o).1 = 13) : pw_cell E σ o = .inl (E.2.2.2.2, (pw_sh o).2, .inr (.inr (.inr (.inr (fun k => (σ.2.2 o k).map (fun j => E.1 + j)))))) := by
  unfold pw_cell
  rw [if_neg (by omega), if_neg (by omega), if_pos h]
theorem pw_flds_at {b : Nat} {σ : pw_Sto} {o k : Nat} {t : List Bool} {i : Bool} (h : t[k]? = some i) : (pw_flds b σ o t)[k]? = some (pw_fld b σ o i k) := by
  unfold pw_flds
  rw [List.getElem?_mapIdx, h]
  rfl
theorem pw_cell_ne {E : pw_E} {σ σ' : pw_Sto} {j : Nat} (h1 : σ'.2.1 j = σ.2.1 j) (h2 : σ'.2.2 j = σ.2.2 j) : pw_cell E σ' j = pw_cell E σ j := by
  unfold pw_cell
  rw [h1, h2]
  have hf : pw_flds E.1 σ' j (pw_ft (pw_sh j).1) = pw_flds E.1 σ j (pw_ft (pw_sh j).1) := by
    unfold pw_flds
    congr 1
    funext k i
    unfold pw_fld
    rw [h1, h2]
  rw [hf]
theorem pw_u2_ne {β : Type} {f : Nat → Nat → β} {o k j : Nat} {v : β} (h : j ≠ o) : pw_u2 f o k v j = f j := if_neg h
theorem pw_u2_eq {β : Type} {f : Nat → Nat → β} {o k : Nat} {v : β} : pw_u2 f o k v o = (fun j => if j = k then v else f o j) := if_pos rfl
theorem pw_u2_at {β : Type} {f : Nat → Nat → β} {o k j : Nat} {v : β} : pw_u2 f o k v o j = if j = k then v else f o j := by unfold pw_u2; rw [if_pos rfl]
theorem pw_flds_set {b : Nat} {σ σ' : pw_Sto} {o k : Nat} {t : List Bool} {v : Value} (h : ∀ j i, j ≠ k → pw_fld b σ' o i j = pw_fld b σ o i j) (hk : ∀ i, t[k]? = some i → pw_fld b σ' o i k = v) : (pw_flds b σ o t).set k v = pw_flds b σ' o t := by
  apply List.ext_getElem?
  intro j
  by_cases hj : j = k
  · subst hj
    unfold pw_flds
    cases hi : t[j]? with
    | none =>
      rw [List.getElem?_mapIdx, hi, List.getElem?_eq_none]
      · rfl
      · rw [List.length_set, List.length_mapIdx]
        exact List.getElem?_eq_none_iff.mp hi
    | some i =>
      have hl : j < t.length := (List.getElem?_eq_some_iff.mp hi).1
      rw [List.getElem?_set_self (by rw [List.length_mapIdx]; exact hl), List.getElem?_mapIdx, hi]
      show some v = some (pw_fld b σ' o i j)
      rw [hk i hi]
  · rw [List.getElem?_set_ne (Ne.symm hj)]
    unfold pw_flds
    rw [List.getElem?_mapIdx, List.getElem?_mapIdx]
    cases hi : t[j]? with
    | none => rfl
    | some i =>
      show some (pw_fld b σ o i j) = some (pw_fld b σ' o i j)
      rw [h j i hj]
/-- what is known of a class: its place, its words, its fields' types -/
def pw_Cl (ci : Nat) (C : String) (T : u_T) (N : Nat) (Y : Nat → FieldType) : Prop := pw_cl[ci]? = some (C, T, N) ∧ ci < 11 ∧ (∀ w ∈ u_ws C T N, w ∈ pw_gt) ∧ (∀ k, k < N → parseFieldDescriptor (T k).2.2.1 = some (Y k)) ∧ (∀ a, a < N → ∀ b, b < N → a ≠ b → (T a).2.1 ≠ (T b).2.1) ∧ (pw_ft ci).length = N
section PWH
variable {α : Type} {X : pw_X α} {cc : ByteArray} {own : String} {rm : Room} {nL cells slots pc : Nat} {L L' : List (Nat × Value)} {st : List Value} {σ : pw_Sto} {F : Option (α × pw_Sto)}
variable {ci o k idx : Nat} {C ref host : String} {T : u_T} {N : Nat} {Y : Nat → FieldType}
theorem sp_getI (hX : pw_Ok X cc own rm nL) (hC : pw_Cl ci C T N Y) (hk : k < N) (hw : Cond.fieldLink own idx (T k).1 (T k).2.1 (T k).2.2.1 ∈ pw_gt) (hi : (pw_ft ci)[k]? = some true) (d : decode cc pc = .ok (.getfield idx, 3)) {g : Int32 → Option (α × pw_Sto)} (K : ∀ v, pw_Sp X cells slots (pc + 3) L (.int v :: st) σ (g v)) : pw_Sp X cells slots pc L (.ref o :: st) σ ((pw_gi ci o k σ).bind g) := by
  obtain ⟨⟨p, l, e, R, s, m, args, below, meth, c⟩, Q, ⟨b, D, c1, c2, c3⟩, out, mc, ms⟩ := X
  intro hF hN H locs ls hl hH hS
  by_cases h : o < σ.1 ∧ (pw_sh o).1 = ci
  · rw [pw_gi, if_pos h] at hF
    exact va_get (D := D) (cl := pw_cl) hX.1 hX.2.1 (Ts := pw_gt) hX.2.2.2.2.2.1 hC.2.2.1 hX.2.2.2.2.1 hX.2.2.2.2.2.2.1.1 hH o (by rw [pw_ws_at h.1, pw_cell_o h.2 hC.2.1]) hC.1 k hk (hX.2.2.2.2.2.1 _ hw) (fun _ h9 => h9) (pw_flds_at hi) d (K _ hF hN H locs ls hl hH hS)
  · rw [pw_gi, if_neg h] at hF; cases hF
theorem sp_getIN (hX : pw_Ok X cc own rm nL) (hC : pw_Cl ci C T N Y) (hk : k < N) (hw : Cond.fieldLinkNest own idx (T k).1 (T k).2.1 (T k).2.2.1 host ∈ pw_nest) (hi : (pw_ft ci)[k]? = some true) (d : decode cc pc = .ok (.getfield idx, 3)) {g : Int32 → Option (α × pw_Sto)} (K : ∀ v, pw_Sp X cells slots (pc + 3) L (.int v :: st) σ (g v)) : pw_Sp X cells slots pc L (.ref o :: st) σ ((pw_gi ci o k σ).bind g) := by
  obtain ⟨⟨p, l, e, R, s, m, args, below, meth, c⟩, Q, ⟨b, D, c1, c2, c3⟩, out, mc, ms⟩ := X
  intro hF hN H locs ls hl hH hS
  by_cases h : o < σ.1 ∧ (pw_sh o).1 = ci
  · rw [pw_gi, if_pos h] at hF
    exact va_getN (D := D) (cl := pw_cl) hX.1 hX.2.1 (Ts := pw_gt) hX.2.2.2.2.2.1 hC.2.2.1 hX.2.2.2.2.1 hX.2.2.2.2.2.2.1.1 hH o (by rw [pw_ws_at h.1, pw_cell_o h.2 hC.2.1]) hC.1 k hk (va_Nw.use rfl (hX.2.2.2.2.2.2.1.2 _ hw)) (fun _ h9 => h9) (pw_flds_at hi) d (K _ hF hN H locs ls hl hH hS)
  · rw [pw_gi, if_neg h] at hF; cases hF
theorem sp_getR (hX : pw_Ok X cc own rm nL) (hC : pw_Cl ci C T N Y) (hk : k < N) (hw : Cond.fieldLink own idx (T k).1 (T k).2.1 (T k).2.2.1 ∈ pw_gt) (hi : (pw_ft ci)[k]? = some false) (d : decode cc pc = .ok (.getfield idx, 3)) {g : Nat → Option (α × pw_Sto)} (K : ∀ v, pw_Sp X cells slots (pc + 3) L (.ref v :: st) σ (g v)) : pw_Sp X cells slots pc L (.ref o :: st) σ ((pw_gr ci o k σ).bind g) := by
  obtain ⟨⟨p, l, e, R, s, m, args, below, meth, c⟩, Q, ⟨b, D, c1, c2, c3⟩, out, mc, ms⟩ := X
  intro hF hN H locs ls hl hH hS
  by_cases h : o < σ.1 ∧ (pw_sh o).1 = ci
  · rw [pw_gr, if_pos h] at hF
    cases hv : σ.2.2 o k with
    | none => rw [hv] at hF; cases hF
    | some v =>
      rw [hv] at hF
      refine va_get (D := D) (cl := pw_cl) (v := .ref (b + v)) hX.1 hX.2.1 (Ts := pw_gt) hX.2.2.2.2.2.1 hC.2.2.1 hX.2.2.2.2.1 hX.2.2.2.2.2.2.1.1 hH o (by rw [pw_ws_at h.1, pw_cell_o h.2 hC.2.1]) hC.1 k hk (hX.2.2.2.2.2.1 _ hw) (fun _ h9 => h9) ?_ d (K v hF hN H locs ls hl hH hS)
      rw [pw_flds_at hi]
      unfold pw_fld
      rw [hv]
      rfl
  · rw [pw_gr, if_neg h] at hF; cases hF
theorem sp_getRN (hX : pw_Ok X cc own rm nL) (hC : pw_Cl ci C T N Y) (hk : k < N) (hw : Cond.fieldLinkNest own idx (T k).1 (T k).2.1 (T k).2.2.1 host ∈ pw_nest) (hi : (pw_ft ci)[k]? = some false) (d : decode cc pc = .ok (.getfield idx, 3)) {g : Nat → Option (α × pw_Sto)} (K : ∀ v, pw_Sp X cells slots (pc + 3) L (.ref v :: st) σ (g v)) : pw_Sp X cells slots pc L (.ref o :: st) σ ((pw_gr ci o k σ).bind g) := by
  obtain ⟨⟨p, l, e, R, s, m, args, below, meth, c⟩, Q, ⟨b, D, c1, c2, c3⟩, out, mc, ms⟩ := X
  intro hF hN H locs ls hl hH hS
  by_cases h : o < σ.1 ∧ (pw_sh o).1 = ci
  · rw [pw_gr, if_pos h] at hF
    cases hv : σ.2.2 o k with
    | none => rw [hv] at hF; cases hF
    | some v =>
      rw [hv] at hF
      refine va_getN (D := D) (cl := pw_cl) (v := .ref (b + v)) hX.1 hX.2.1 (Ts := pw_gt) hX.2.2.2.2.2.1 hC.2.2.1 hX.2.2.2.2.1 hX.2.2.2.2.2.2.1.1 hH o (by rw [pw_ws_at h.1, pw_cell_o h.2 hC.2.1]) hC.1 k hk (va_Nw.use rfl (hX.2.2.2.2.2.2.1.2 _ hw)) (fun _ h9 => h9) ?_ d (K v hF hN H locs ls hl hH hS)
      rw [pw_flds_at hi]
      unfold pw_fld
      rw [hv]
      rfl
  · rw [pw_gr, if_neg h] at hF; cases hF
theorem pw_put_i {E : pw_E} (h : o < σ.1 ∧ (pw_sh o).1 = ci) (hc : ci < 11) (hi : (pw_ft ci)[k]? = some true) (v : Int32) {H : Heap} (hP : va_P E.2.1 pw_cl ((pw_ws E σ).set o (E.1 + o, .inr (ci, (pw_flds E.1 σ o (pw_ft ci)).set k (.int v)))) H) : va_P E.2.1 pw_cl (pw_ws E (σ.1, pw_u2 σ.2.1 o k v, σ.2.2)) H := by
  refine pw_va_P_setK (σ := σ) (σ' := (σ.1, pw_u2 σ.2.1 o k v, σ.2.2)) rfl h.1 (fun j hj => pw_cell_ne (pw_u2_ne hj) rfl) ?_ hP
  rw [pw_cell_o h.2 hc, pw_flds_set (σ' := (σ.1, pw_u2 σ.2.1 o k v, σ.2.2))]
  · intro j i hj
    cases i
    · rfl
    · show Value.int (pw_u2 σ.2.1 o k v o j) = Value.int (σ.2.1 o j)
      rw [pw_u2_at, if_neg hj]
  · intro i h9
    rw [hi] at h9
    cases h9
    show Value.int (pw_u2 σ.2.1 o k v o k) = Value.int v
    rw [pw_u2_at, if_pos rfl]
theorem pw_put_r {E : pw_E} (h : o < σ.1 ∧ (pw_sh o).1 = ci) (hc : ci < 11) (hi : (pw_ft ci)[k]? = some false) (v : Nat) {H : Heap} (hP : va_P E.2.1 pw_cl ((pw_ws E σ).set o (E.1 + o, .inr (ci, (pw_flds E.1 σ o (pw_ft ci)).set k (.ref (E.1 + v))))) H) : va_P E.2.1 pw_cl (pw_ws E (σ.1, σ.2.1, pw_u2 σ.2.2 o k (some v))) H := by
  refine pw_va_P_setK (σ := σ) (σ' := (σ.1, σ.2.1, pw_u2 σ.2.2 o k (some v))) rfl h.1 (fun j hj => pw_cell_ne rfl (pw_u2_ne hj)) ?_ hP
  rw [pw_cell_o h.2 hc, pw_flds_set (σ' := (σ.1, σ.2.1, pw_u2 σ.2.2 o k (some v)))]
  · intro j i hj
    cases i
    · show va_rf ((pw_u2 σ.2.2 o k (some v) o j).map _) = va_rf ((σ.2.2 o j).map _)
      rw [pw_u2_at, if_neg hj]
    · rfl
  · intro i h9
    rw [hi] at h9
    cases h9
    show va_rf ((pw_u2 σ.2.2 o k (some v) o k).map _) = .ref (E.1 + v)
    rw [pw_u2_at, if_pos rfl]
    rfl
theorem sp_putI (hX : pw_Ok X cc own rm nL) (hC : pw_Cl ci C T N Y) (hk : k < N) (hw : Cond.fieldLink own idx (T k).1 (T k).2.1 (T k).2.2.1 ∈ pw_gt) (hi : (pw_ft ci)[k]? = some true) (hfin : (T k).2.2.2 = false) (hy : Y k = .int) {v : Int32} (d : decode cc pc = .ok (.putfield idx, 3)) {g : pw_Sto → Option (α × pw_Sto)} (K : ∀ σ', pw_Sp X cells slots (pc + 3) L st σ' (g σ')) : pw_Sp X cells slots pc L (.int v :: .ref o :: st) σ ((pw_pi ci o k v σ).bind g) := by
  obtain ⟨⟨p, l, e, R, s, m, args, below, meth, c⟩, Q, ⟨b, D, c1, c2, c3⟩, out, mc, ms⟩ := X
  intro hF hN H locs ls hl hH hS
  by_cases h : o < σ.1 ∧ (pw_sh o).1 = ci
  · rw [pw_pi, if_pos h] at hF
    refine va_put (D := D) (cl := pw_cl) (v := .int v) hX.1 hX.2.1 (Ts := pw_gt) hX.2.2.2.2.2.1 hC.2.2.1 Y hC.2.2.2.1 hC.2.2.2.2.1 hX.2.2.2.2.1 hX.2.2.2.2.2.2.1.1 hH (pw_ws_D (b, D, c1, c2, c3) σ) hS o (by rw [pw_ws_at h.1, pw_cell_o h.2 hC.2.1]) hC.1 k hk (hX.2.2.2.2.2.1 _ hw) (fun _ h9 => h9) hfin (hC.2.2.2.1 k hk) (by rw [hy]; rfl) (by rw [hy]; rfl) (by unfold pw_flds; rw [List.length_mapIdx, hC.2.2.2.2.2]; exact hk) d (fun H1 locs1 hP1 hD1 hS1 => ?_)
    exact K (σ.1, pw_u2 σ.2.1 o k v, σ.2.2) hF hN H1 locs1 ls hl (pw_put_i (E := (b, D, c1, c2, c3)) h hC.2.1 hi v hP1) hS1
  · rw [pw_pi, if_neg h] at hF; cases hF
theorem sp_putIF (hX : pw_Ok X cc own rm nL) (hC : pw_Cl ci C T N Y) (hk : k < N) (hw : Cond.fieldLink own idx (T k).1 (T k).2.1 (T k).2.2.1 ∈ pw_gt) (hi : (pw_ft ci)[k]? = some true) (hfin : (T k).2.2.2 = true) (hin2 : X.1.2.2.2.2.2.2.2.2.1.name = "<init>") (hdecl : (T k).1 = own) (hy : Y k = .int) {v : Int32} (d : decode cc pc = .ok (.putfield idx, 3)) {g : pw_Sto → Option (α × pw_Sto)} (K : ∀ σ', pw_Sp X cells slots (pc + 3) L st σ' (g σ')) : pw_Sp X cells slots pc L (.int v :: .ref o :: st) σ ((pw_pi ci o k v σ).bind g) := by
  obtain ⟨⟨p, l, e, R, s, m, args, below, meth, c⟩, Q, ⟨b, D, c1, c2, c3⟩, out, mc, ms⟩ := X
  intro hF hN H locs ls hl hH hS
  by_cases h : o < σ.1 ∧ (pw_sh o).1 = ci
  · rw [pw_pi, if_pos h] at hF
    refine va_putF (D := D) (cl := pw_cl) (v := .int v) hX.1 hX.2.1 (Ts := pw_gt) hX.2.2.2.2.2.1 hC.2.2.1 Y hC.2.2.2.1 hC.2.2.2.2.1 hX.2.2.2.2.1 hX.2.2.2.2.2.2.1.1 hH (pw_ws_D (b, D, c1, c2, c3) σ) hS o (by rw [pw_ws_at h.1, pw_cell_o h.2 hC.2.1]) hC.1 k hk (hX.2.2.2.2.2.1 _ hw) (fun _ h9 => h9) hfin hin2 hdecl (hC.2.2.2.1 k hk) (by rw [hy]; rfl) (by rw [hy]; rfl) (by unfold pw_flds; rw [List.length_mapIdx, hC.2.2.2.2.2]; exact hk) d (fun H1 locs1 hP1 hD1 hS1 => ?_)
    exact K (σ.1, pw_u2 σ.2.1 o k v, σ.2.2) hF hN H1 locs1 ls hl (pw_put_i (E := (b, D, c1, c2, c3)) h hC.2.1 hi v hP1) hS1
  · rw [pw_pi, if_neg h] at hF; cases hF
theorem sp_putR (hX : pw_Ok X cc own rm nL) (hC : pw_Cl ci C T N Y) (hk : k < N) (hw : Cond.fieldLink own idx (T k).1 (T k).2.1 (T k).2.2.1 ∈ pw_gt) (hi : (pw_ft ci)[k]? = some false) (hfin : (T k).2.2.2 = false) (hy : narrow (Y k) (.ref 0) = .ref 0 ∧ ∀ a, narrow (Y k) (.ref a) = .ref a ∧ fits (Y k) (.ref a) = true) {v : Nat} (d : decode cc pc = .ok (.putfield idx, 3)) {g : pw_Sto → Option (α × pw_Sto)} (K : ∀ σ', pw_Sp X cells slots (pc + 3) L st σ' (g σ')) : pw_Sp X cells slots pc L (.ref v :: .ref o :: st) σ ((pw_pr ci o k v σ).bind g) := by
  obtain ⟨⟨p, l, e, R, s, m, args, below, meth, c⟩, Q, ⟨b, D, c1, c2, c3⟩, out, mc, ms⟩ := X
  intro hF hN H locs ls hl hH hS
  by_cases h : o < σ.1 ∧ (pw_sh o).1 = ci
  · rw [pw_pr, if_pos h] at hF
    refine va_put (D := D) (cl := pw_cl) (v := .ref (b + v)) hX.1 hX.2.1 (Ts := pw_gt) hX.2.2.2.2.2.1 hC.2.2.1 Y hC.2.2.2.1 hC.2.2.2.2.1 hX.2.2.2.2.1 hX.2.2.2.2.2.2.1.1 hH (pw_ws_D (b, D, c1, c2, c3) σ) hS o (by rw [pw_ws_at h.1, pw_cell_o h.2 hC.2.1]) hC.1 k hk (hX.2.2.2.2.2.1 _ hw) (fun _ h9 => h9) hfin (hC.2.2.2.1 k hk) (hy.2 (b + v)).1 (hy.2 (b + v)).2 (by unfold pw_flds; rw [List.length_mapIdx, hC.2.2.2.2.2]; exact hk) d (fun H1 locs1 hP1 hD1 hS1 => ?_)
    exact K (σ.1, σ.2.1, pw_u2 σ.2.2 o k (some v)) hF hN H1 locs1 ls hl (pw_put_r (E := (b, D, c1, c2, c3)) h hC.2.1 hi v hP1) hS1
  · rw [pw_pr, if_neg h] at hF; cases hF
theorem sp_putRF (hX : pw_Ok X cc own rm nL) (hC : pw_Cl ci C T N Y) (hk : k < N) (hw : Cond.fieldLink own idx (T k).1 (T k).2.1 (T k).2.2.1 ∈ pw_gt) (hi : (pw_ft ci)[k]? = some false) (hfin : (T k).2.2.2 = true) (hin2 : X.1.2.2.2.2.2.2.2.2.1.name = "<init>") (hdecl : (T k).1 = own) (hy : narrow (Y k) (.ref 0) = .ref 0 ∧ ∀ a, narrow (Y k) (.ref a) = .ref a ∧ fits (Y k) (.ref a) = true) {v : Nat} (d : decode cc pc = .ok (.putfield idx, 3)) {g : pw_Sto → Option (α × pw_Sto)} (K : ∀ σ', pw_Sp X cells slots (pc + 3) L st σ' (g σ')) : pw_Sp X cells slots pc L (.ref v :: .ref o :: st) σ ((pw_pr ci o k v σ).bind g) := by
  obtain ⟨⟨p, l, e, R, s, m, args, below, meth, c⟩, Q, ⟨b, D, c1, c2, c3⟩, out, mc, ms⟩ := X
  intro hF hN H locs ls hl hH hS
  by_cases h : o < σ.1 ∧ (pw_sh o).1 = ci
  · rw [pw_pr, if_pos h] at hF
    refine va_putF (D := D) (cl := pw_cl) (v := .ref (b + v)) hX.1 hX.2.1 (Ts := pw_gt) hX.2.2.2.2.2.1 hC.2.2.1 Y hC.2.2.2.1 hC.2.2.2.2.1 hX.2.2.2.2.1 hX.2.2.2.2.2.2.1.1 hH (pw_ws_D (b, D, c1, c2, c3) σ) hS o (by rw [pw_ws_at h.1, pw_cell_o h.2 hC.2.1]) hC.1 k hk (hX.2.2.2.2.2.1 _ hw) (fun _ h9 => h9) hfin hin2 hdecl (hC.2.2.2.1 k hk) (hy.2 (b + v)).1 (hy.2 (b + v)).2 (by unfold pw_flds; rw [List.length_mapIdx, hC.2.2.2.2.2]; exact hk) d (fun H1 locs1 hP1 hD1 hS1 => ?_)
    exact K (σ.1, σ.2.1, pw_u2 σ.2.2 o k (some v)) hF hN H1 locs1 ls hl (pw_put_r (E := (b, D, c1, c2, c3)) h hC.2.1 hi v hP1) hS1
  · rw [pw_pr, if_neg h] at hF; cases hF
theorem sp_putIN (hX : pw_Ok X cc own rm nL) (hC : pw_Cl ci C T N Y) (hk : k < N) (hw : Cond.fieldLinkNest own idx (T k).1 (T k).2.1 (T k).2.2.1 host ∈ pw_nest) (hi : (pw_ft ci)[k]? = some true) (hfin : (T k).2.2.2 = false) (hy : Y k = .int) {v : Int32} (d : decode cc pc = .ok (.putfield idx, 3)) {g : pw_Sto → Option (α × pw_Sto)} (K : ∀ σ', pw_Sp X cells slots (pc + 3) L st σ' (g σ')) : pw_Sp X cells slots pc L (.int v :: .ref o :: st) σ ((pw_pi ci o k v σ).bind g) := by
  obtain ⟨⟨p, l, e, R, s, m, args, below, meth, c⟩, Q, ⟨b, D, c1, c2, c3⟩, out, mc, ms⟩ := X
  intro hF hN H locs ls hl hH hS
  by_cases h : o < σ.1 ∧ (pw_sh o).1 = ci
  · rw [pw_pi, if_pos h] at hF
    refine va_putN (D := D) (cl := pw_cl) (v := .int v) hX.1 hX.2.1 (Ts := pw_gt) hX.2.2.2.2.2.1 hC.2.2.1 Y hC.2.2.2.1 hC.2.2.2.2.1 hX.2.2.2.2.1 hX.2.2.2.2.2.2.1.1 hH (pw_ws_D (b, D, c1, c2, c3) σ) hS o (by rw [pw_ws_at h.1, pw_cell_o h.2 hC.2.1]) hC.1 k hk (va_Nw.use rfl (hX.2.2.2.2.2.2.1.2 _ hw)) (fun _ h9 => h9) hfin (hC.2.2.2.1 k hk) (by rw [hy]; rfl) (by rw [hy]; rfl) (by unfold pw_flds; rw [List.length_mapIdx, hC.2.2.2.2.2]; exact hk) d (fun H1 locs1 hP1 hD1 hS1 => ?_)
    exact K (σ.1, pw_u2 σ.2.1 o k v, σ.2.2) hF hN H1 locs1 ls hl (pw_put_i (E := (b, D, c1, c2, c3)) h hC.2.1 hi v hP1) hS1
  · rw [pw_pi, if_neg h] at hF; cases hF
theorem sp_putRN (hX : pw_Ok X cc own rm nL) (hC : pw_Cl ci C T N Y) (hk : k < N) (hw : Cond.fieldLinkNest own idx (T k).1 (T k).2.1 (T k).2.2.1 host ∈ pw_nest) (hi : (pw_ft ci)[k]? = some false) (hfin : (T k).2.2.2 = false) (hy : narrow (Y k) (.ref 0) = .ref 0 ∧ ∀ a, narrow (Y k) (.ref a) = .ref a ∧ fits (Y k) (.ref a) = true) {v : Nat} (d : decode cc pc = .ok (.putfield idx, 3)) {g : pw_Sto → Option (α × pw_Sto)} (K : ∀ σ', pw_Sp X cells slots (pc + 3) L st σ' (g σ')) : pw_Sp X cells slots pc L (.ref v :: .ref o :: st) σ ((pw_pr ci o k v σ).bind g) := by
  obtain ⟨⟨p, l, e, R, s, m, args, below, meth, c⟩, Q, ⟨b, D, c1, c2, c3⟩, out, mc, ms⟩ := X
  intro hF hN H locs ls hl hH hS
  by_cases h : o < σ.1 ∧ (pw_sh o).1 = ci
  · rw [pw_pr, if_pos h] at hF
    refine va_putN (D := D) (cl := pw_cl) (v := .ref (b + v)) hX.1 hX.2.1 (Ts := pw_gt) hX.2.2.2.2.2.1 hC.2.2.1 Y hC.2.2.2.1 hC.2.2.2.2.1 hX.2.2.2.2.1 hX.2.2.2.2.2.2.1.1 hH (pw_ws_D (b, D, c1, c2, c3) σ) hS o (by rw [pw_ws_at h.1, pw_cell_o h.2 hC.2.1]) hC.1 k hk (va_Nw.use rfl (hX.2.2.2.2.2.2.1.2 _ hw)) (fun _ h9 => h9) hfin (hC.2.2.2.1 k hk) (hy.2 (b + v)).1 (hy.2 (b + v)).2 (by unfold pw_flds; rw [List.length_mapIdx, hC.2.2.2.2.2]; exact hk) d (fun H1 locs1 hP1 hD1 hS1 => ?_)
    exact K (σ.1, σ.2.1, pw_u2 σ.2.2 o k (some v)) hF hN H1 locs1 ls hl (pw_put_r (E := (b, D, c1, c2, c3)) h hC.2.1 hi v hP1) hS1
  · rw [pw_pr, if_neg h] at hF; cases hF
theorem pw_vin {i : Int32} {n : Nat} (h : 0 ≤ i ∧ i.toNatClampNeg < n) : vp_in i n := by
  intro q
  rcases q with q | q
  · exact absurd h.1 (Int32.not_le.mpr q)
  · omega
theorem sp_iaload (hX : pw_Ok X cc own rm nL) {a : Nat} {i : Int32} (d : decode cc pc = .ok (.iaload, 1)) {g : Int32 → Option (α × pw_Sto)} (K : ∀ v, pw_Sp X cells slots (pc + 1) L (.int v :: st) σ (g v)) : pw_Sp X cells slots pc L (.int i :: .ref a :: st) σ ((pw_ai a i σ).bind g) := by
  obtain ⟨⟨p, l, e, R, s, m, args, below, meth, c⟩, Q, ⟨b, D, c1, c2, c3⟩, out, mc, ms⟩ := X
  intro hF hN H locs ls hl hH hS
  by_cases h : (a < σ.1 ∧ (pw_sh a).1 = 11) ∧ (0 ≤ i ∧ i.toNatClampNeg < (pw_sh a).2)
  · rw [pw_ai, if_pos h] at hF
    exact va_iald (D := D) (cl := pw_cl) hX.1 hX.2.1 hX.2.2.2.2.2.2.1.1 hH a 0 (by rw [pw_ws_at h.1.1, pw_cell_i h.1.2]) rfl (pw_vin h.2) d (K _ hF hN H locs ls hl hH hS)
  · rw [pw_ai, if_neg h] at hF; cases hF
theorem sp_iastore (hX : pw_Ok X cc own rm nL) {a : Nat} {i v : Int32} (d : decode cc pc = .ok (.iastore, 1)) {g : pw_Sto → Option (α × pw_Sto)} (K : ∀ σ', pw_Sp X cells slots (pc + 1) L st σ' (g σ')) : pw_Sp X cells slots pc L (.int v :: .int i :: .ref a :: st) σ ((pw_si a i v σ).bind g) := by
  obtain ⟨⟨p, l, e, R, s, m, args, below, meth, c⟩, Q, ⟨b, D, c1, c2, c3⟩, out, mc, ms⟩ := X
  intro hF hN H locs ls hl hH hS
  by_cases h : (a < σ.1 ∧ (pw_sh a).1 = 11) ∧ (0 ≤ i ∧ i.toNatClampNeg < (pw_sh a).2)
  · rw [pw_si, if_pos h] at hF
    refine va_iast (D := D) (cl := pw_cl) hX.1 hX.2.1 hX.2.2.2.2.2.2.1.1 hH (pw_ws_D (b, D, c1, c2, c3) σ) hS a 0 (by rw [pw_ws_at h.1.1, pw_cell_i h.1.2]) rfl (pw_vin h.2) d (fun H1 locs1 hP1 hD1 hS1 => ?_)
    refine K (σ.1, pw_u2 σ.2.1 a i.toNatClampNeg v, σ.2.2) hF hN H1 locs1 ls hl (pw_va_P_setK (E := (b, D, c1, c2, c3)) (σ := σ) (σ' := (σ.1, pw_u2 σ.2.1 a i.toNatClampNeg v, σ.2.2)) rfl h.1.1 (fun j hj => pw_cell_ne (pw_u2_ne hj) rfl) ?_ hP1) hS1
    rw [pw_cell_i h.1.2]
    show Sum.inl (_, _, Sum.inl (pw_u2 σ.2.1 a i.toNatClampNeg v a)) = _
    rw [pw_u2_eq]
    rfl
  · rw [pw_si, if_neg h] at hF; cases hF
theorem sp_alen (hX : pw_Ok X cc own rm nL) {a : Nat} (d : decode cc pc = .ok (.arraylength, 1)) {g : Int32 → Option (α × pw_Sto)} (K : ∀ v, pw_Sp X cells slots (pc + 1) L (.int v :: st) σ (g v)) : pw_Sp X cells slots pc L (.ref a :: st) σ ((pw_al a σ).bind g) := by
  obtain ⟨⟨p, l, e, R, s, m, args, below, meth, c⟩, Q, ⟨b, D, c1, c2, c3⟩, out, mc, ms⟩ := X
  intro hF hN H locs ls hl hH hS
  by_cases h : a < σ.1 ∧ (pw_sh a).1 = 11
  · rw [pw_al, if_pos h] at hF
    exact va_alen (D := D) (cl := pw_cl) (x := ((pw_sh a).2, .inl (σ.2.1 a))) hX.1 hX.2.1 hX.2.2.2.2.2.2.1.1 hH a 0 (by rw [pw_ws_at h.1, pw_cell_i h.2]) rfl rfl d (K _ hF hN H locs ls hl hH hS)
  · rw [pw_al, if_neg h] at hF; cases hF
theorem sp_aaS (hX : pw_Ok X cc own rm nL) {a : Nat} {i : Int32} (d : decode cc pc = .ok (.aaload, 1)) {g : Nat → Option (α × pw_Sto)} (K : ∀ v, pw_Sp X cells slots (pc + 1) L (.ref v :: st) σ (g v)) : pw_Sp X cells slots pc L (.int i :: .ref a :: st) σ ((pw_ar 12 a i σ).bind g) := by
  obtain ⟨⟨p, l, e, R, s, m, args, below, meth, c⟩, Q, ⟨b, D, c1, c2, c3⟩, out, mc, ms⟩ := X
  intro hF hN H locs ls hl hH hS
  by_cases h : (a < σ.1 ∧ (pw_sh a).1 = 12) ∧ (0 ≤ i ∧ i.toNatClampNeg < (pw_sh a).2)
  · rw [pw_ar, if_pos h] at hF
    cases hv : σ.2.2 a i.toNatClampNeg with
    | none => rw [hv] at hF; cases hF
    | some v =>
      rw [hv] at hF
      refine va_aldq (D := D) (cl := pw_cl) hX.1 hX.2.1 hX.2.2.2.2.2.2.1.1 hH a 1 (by rw [pw_ws_at h.1.1, pw_cell_s h.1.2]) rfl (pw_vin h.2) d ?_
      dsimp only
      rw [hv]
      exact K v hF hN H locs ls hl hH hS
  · rw [pw_ar, if_neg h] at hF; cases hF
theorem sp_aaG (hX : pw_Ok X cc own rm nL) {a : Nat} {i : Int32} (d : decode cc pc = .ok (.aaload, 1)) {g : Nat → Option (α × pw_Sto)} (K : ∀ v, pw_Sp X cells slots (pc + 1) L (.ref v :: st) σ (g v)) : pw_Sp X cells slots pc L (.int i :: .ref a :: st) σ ((pw_ar 13 a i σ).bind g) := by
  obtain ⟨⟨p, l, e, R, s, m, args, below, meth, c⟩, Q, ⟨b, D, c1, c2, c3⟩, out, mc, ms⟩ := X
  intro hF hN H locs ls hl hH hS
  by_cases h : (a < σ.1 ∧ (pw_sh a).1 = 13) ∧ (0 ≤ i ∧ i.toNatClampNeg < (pw_sh a).2)
  · rw [pw_ar, if_pos h] at hF
    cases hv : σ.2.2 a i.toNatClampNeg with
    | none => rw [hv] at hF; cases hF
    | some v =>
      rw [hv] at hF
      have ha : (pw_ws (b, D, c1, c2, c3) σ)[a]? = some (b + a, .inl (c3, (pw_sh a).2, .inr (.inr (.inr (.inr (fun k => (σ.2.2 a k).map (fun j => b + j))))))) := by rw [pw_ws_at h.1.1, pw_cell_g h.1.2]
      have hK := hX.2.2.2.2.2.2.1.1
      have ht : (pw_tys (b, D, c1, c2, c3))[2]? = some (c3, .array .int) := rfl
      refine W.aald (v := .ref (b + v)) (ty := .array .int) hX.1 hX.2.1 (hH a _ ha) ((hK.2 2 _ ht).1 (pw_sh a).2 (fun j => va_rf ((σ.2.2 a j).map (fun j => b + j)))) rfl (fun q => by cases q) (by show ¬ (i < 0 ∨ (arrV _ _ _).slots.size ≤ _); rw [arrV_size]; exact pw_vin h.2) (by show (arrV _ _ _).slots[_]? = _; rw [arrV_read _ _ h.2.2]; show some (va_rf ((σ.2.2 a i.toNatClampNeg).map _)) = _; rw [hv]; rfl) rfl rfl d (K v hF hN H locs ls hl hH hS)
  · rw [pw_ar, if_neg h] at hF; cases hF
theorem sp_copy (hX : pw_Ok X cc own rm nL) {a d : Nat} {i j n : Int32} (hw : Cond.methodLink own idx arraycopyName ∈ pw_gt) (h1 : Cond.native arraycopyName ∈ pw_gt) (h2 : Cond.static arraycopyName ∈ pw_gt) (h3 : Cond.initialized "java/lang/System" ∈ pw_gt) (hfr : 1 ≤ rm.frames) (hlo : (st.map fun v => v.category).sum + (nativeFrameWords "java/lang/System" "arraycopy" 5 + 11) ≤ rm.locals) (dc : decode cc pc = .ok (.invokestatic idx, 3)) {g : pw_Sto → Option (α × pw_Sto)} (K : ∀ σ', pw_Sp X cells slots (pc + 3) L st σ' (g σ')) : pw_Sp X cells slots pc L (.int n :: .int j :: .ref d :: .int i :: .ref a :: st) σ ((pw_cp a i d j n σ).bind g) := by
  obtain ⟨⟨p, l, e, R, s, m, args, below, meth, c⟩, Q, ⟨b, D, c1, c2, c3⟩, out, mc, ms⟩ := X
  intro hF hN H locs ls hl hH hS
  by_cases h : ((a < σ.1 ∧ (pw_sh a).1 = 11) ∧ (d < σ.1 ∧ (pw_sh d).1 = 11)) ∧ ((0 ≤ i ∧ 0 ≤ j ∧ 0 ≤ n) ∧ (i.toNatClampNeg + n.toNatClampNeg ≤ (pw_sh a).2 ∧ j.toNatClampNeg + n.toNatClampNeg ≤ (pw_sh d).2))
  · rw [pw_cp, if_pos h] at hF
    have hst : ((st.map (pw_tr b)).map fun v => v.category) = st.map fun v => v.category := by
      rw [List.map_map]
      congr 1
      funext v
      exact pw_tr_cat b v
    refine va_copyi (D := D) (cl := pw_cl) (ty := .int) hX.1 hX.2.1 (hl.1.symm) hX.2.2.2.2.1 (hX.2.2.2.2.2.1 _ hw) (hX.2.2.2.2.2.1 _ h1) (hX.2.2.2.2.2.1 _ h2) (hX.2.2.2.2.2.1 _ h3) hX.2.2.2.2.2.2.1.1 hH (pw_ws_D (b, D, c1, c2, c3) σ) hS a d 0 0 (by rw [pw_ws_at h.1.1.1, pw_cell_i h.1.1.2]) (by rw [pw_ws_at h.1.2.1, pw_cell_i h.1.2.2]) rfl rfl rfl (Int32.not_lt.mpr h.2.1.1) (Int32.not_lt.mpr h.2.1.2.1) (Int32.not_lt.mpr h.2.1.2.2) h.2.2.1 h.2.2.2 (fun _ _ => rfl) (by rw [hX.2.2.2.1]; exact hfr) (by rw [hX.2.2.2.1, hst]; exact hlo) dc (fun H1 locs1 hP1 hD1 hS1 => ?_)
    refine K _ hF hN H1 locs1 ls hl (pw_va_P_setK (E := (b, D, c1, c2, c3)) (σ := σ) (σ' := (σ.1, (fun q => if q = d then va_cpy (σ.2.1 a) (σ.2.1 d) i.toNatClampNeg j.toNatClampNeg n.toNatClampNeg else σ.2.1 q), σ.2.2)) rfl h.1.2.1 (fun j hj => pw_cell_ne (if_neg hj) rfl) ?_ hP1) hS1
    rw [pw_cell_i h.1.2.2]
    show Sum.inl (_, _, Sum.inl (if d = d then _ else _)) = _
    rw [if_pos rfl]
  · rw [pw_cp, if_neg h] at hF; cases hF
end PWH
end
section
/-! ## contracts, calls, returns -/
def pw_Con (l : Launch) (E : pw_E) (y : MethodName) (cc : ByteArray) (nL : Nat) (ret : Option FieldType) (rm : Room) (As : List Value) (σ : pw_Sto) (Qc : Array Value → State → Outcome → State → Prop) : Prop :=
  Met l y (Cond.code y cc nL ret :: pw_gt) rm (va_Pc (As.map (pw_tr E.1)) (pw_U E σ)) Qc rm.cells rm.slots (fun q => E.1 ≤ q)
def pw_CI (l : Launch) (E : pw_E) (y : MethodName) (cc : ByteArray) (nL : Nat) (ret : Option FieldType) (rm : Room) (As : List Value) (σ : pw_Sto) (o : Int32 × pw_Sto) : Prop := pw_Con l E y cc nL ret rm As σ (va_Qi (fun (r : Int32) (_ : Unit) => r = o.1 ∧ o.2.1 = σ.1 + rm.cells) (fun _ t => pw_U E o.2 t) (fun q => E.1 ≤ q))
def pw_CL (l : Launch) (E : pw_E) (y : MethodName) (cc : ByteArray) (nL : Nat) (ret : Option FieldType) (rm : Room) (As : List Value) (σ : pw_Sto) (o : Int64 × pw_Sto) : Prop := pw_Con l E y cc nL ret rm As σ (va_Ql (fun (r : Int64) (_ : Unit) => r = o.1 ∧ o.2.1 = σ.1 + rm.cells) (fun _ t => pw_U E o.2 t) (fun q => E.1 ≤ q))
def pw_CV (l : Launch) (E : pw_E) (y : MethodName) (cc : ByteArray) (nL : Nat) (ret : Option FieldType) (rm : Room) (As : List Value) (σ : pw_Sto) (o : Unit × pw_Sto) : Prop := pw_Con l E y cc nL ret rm As σ (va_Qv (fun (_ : Unit) => o.2.1 = σ.1 + rm.cells) (fun _ t => pw_U E o.2 t) (fun q => E.1 ≤ q))
theorem pw_low {E : pw_E} {σ : pw_Sto} {H : Heap} (h : pw_H E σ H) : σ.1 = 0 ∨ E.1 + σ.1 ≤ H.size := by
  cases hn : σ.1 with
  | zero => exact Or.inl rfl
  | succ n =>
    have h1 := (h n _ (pw_ws_at (by omega))).lt
    dsimp only at h1
    right
    omega
theorem pw_size {E : pw_E} {σ : pw_Sto} {H : Heap} {n0 cells : Nat} (h : pw_H E σ H) (h0 : E.1 ≤ n0) (h1 : n0 ≤ H.size) (hN : E.1 + σ.1 = n0 + cells) (h2 : H.size ≤ n0 + cells) : H.size = E.1 + σ.1 := by
  rcases pw_low h with q | q
  · omega
  · omega
theorem pw_args (b : Nat) : ∀ (As : List Value) (n : Nat), lv_args n (As.map (pw_tr b)) = (lv_args n As).map (pw_trq b) := by
  intro As
  induction As with
  | nil => intro n; rfl
  | cons v As ih =>
    intro n
    simp only [List.map_cons, lv_args, ih, pw_tr_cat]
    rfl
theorem pw_sl_len (b : Nat) : ∀ (As : List Value), (lg_sl (As.map (pw_tr b))).length = (lg_sl As).length := by
  intro As
  induction As with
  | nil => rfl
  | cons v As ih => cases v <;> simp_all [lg_sl, pw_tr, Value.category]
theorem pw_blind {E : pw_E} {σ : pw_Sto} {av : List Value} : FrameBlind (va_Pc av (pw_U E σ)) := by
  intro a U g mk h
  exact ⟨h.1, h.2.1, h.2.2.1, pw_T.moved (U := U.calling g mk a) (State.WarmedH.refl U) h.2.2.2⟩
def pw_RI (X : pw_X Int32) (cc : ByteArray) : Prop := ∀ (pc : Nat) (ls : Array Slot) (v : Int32) (σ : pw_Sto) (H : Heap) (locs : List Loc), decode cc pc = .ok (.ireturn, 1) → some (v, σ) = some X.2.2.2.1 → X.2.2.1.1 + σ.1 = X.1.2.2.2.2.1.heap.size + X.2.2.2.2.1 → pw_H X.2.2.1 σ H → va_S (fun q => X.2.2.1.1 ≤ q) X.1.2.2.2.2.1.heap H locs → pw_W X H locs X.2.2.2.2.1 X.2.2.2.2.2 (F0 X.1.2.2.2.2.2.1 pc ls [.int v])
def pw_RZ (X : pw_X Int32) (cc : ByteArray) : Prop := ∀ (pc : Nat) (ls : Array Slot) (v : Int32) (σ : pw_Sto) (H : Heap) (locs : List Loc), (v = 0 ∨ v = 1) → decode cc pc = .ok (.ireturn, 1) → some (v, σ) = some X.2.2.2.1 → X.2.2.1.1 + σ.1 = X.1.2.2.2.2.1.heap.size + X.2.2.2.2.1 → pw_H X.2.2.1 σ H → va_S (fun q => X.2.2.1.1 ≤ q) X.1.2.2.2.2.1.heap H locs → pw_W X H locs X.2.2.2.2.1 X.2.2.2.2.2 (F0 X.1.2.2.2.2.2.1 pc ls [.int v])
def pw_RL (X : pw_X Int64) (cc : ByteArray) : Prop := ∀ (pc : Nat) (ls : Array Slot) (v : Int64) (σ : pw_Sto) (H : Heap) (locs : List Loc), decode cc pc = .ok (.lreturn, 1) → some (v, σ) = some X.2.2.2.1 → X.2.2.1.1 + σ.1 = X.1.2.2.2.2.1.heap.size + X.2.2.2.2.1 → pw_H X.2.2.1 σ H → va_S (fun q => X.2.2.1.1 ≤ q) X.1.2.2.2.2.1.heap H locs → pw_W X H locs X.2.2.2.2.1 X.2.2.2.2.2 (F0 X.1.2.2.2.2.2.1 pc ls [.long v])
def pw_RV (X : pw_X Unit) (cc : ByteArray) : Prop := ∀ (pc : Nat) (ls : Array Slot) (σ : pw_Sto) (H : Heap) (locs : List Loc), decode cc pc = .ok (.return_, 1) → some ((), σ) = some X.2.2.2.1 → X.2.2.1.1 + σ.1 = X.1.2.2.2.2.1.heap.size + X.2.2.2.2.1 → pw_H X.2.2.1 σ H → va_S (fun q => X.2.2.1.1 ≤ q) X.1.2.2.2.2.1.heap H locs → pw_W X H locs X.2.2.2.2.1 X.2.2.2.2.2 (F0 X.1.2.2.2.2.2.1 pc ls [])
section PWret
variable {cc : ByteArray} {own : String} {rm : Room} {nL cells slots pc : Nat} {L : List (Nat × Value)} {σ : pw_Sto}
theorem sp_iret {X : pw_X Int32} (hX : pw_Ok X cc own rm nL) (hR : pw_RI X cc) {v : Int32} (hc : cells = rm.cells) (hs : slots ≤ rm.slots) (d : decode cc pc = .ok (.ireturn, 1)) : pw_Sp X cells slots pc L [.int v] σ (some (v, σ)) := by
  intro hF hN H locs ls hl hH hS
  subst hc
  rw [← hX.2.2.2.2.2.2.2.2.1] at hN ⊢
  exact W.widen (Nat.le_refl _) (by rw [hX.2.2.2.2.2.2.2.2.2]; exact hs) (hR pc ls v σ H locs d hF hN hH hS)
theorem sp_zret {X : pw_X Int32} (hX : pw_Ok X cc own rm nL) (hR : pw_RZ X cc) {v : Int32} (hv : v = 0 ∨ v = 1) (hc : cells = rm.cells) (hs : slots ≤ rm.slots) (d : decode cc pc = .ok (.ireturn, 1)) : pw_Sp X cells slots pc L [.int v] σ (some (v, σ)) := by
  intro hF hN H locs ls hl hH hS
  subst hc
  rw [← hX.2.2.2.2.2.2.2.2.1] at hN ⊢
  exact W.widen (Nat.le_refl _) (by rw [hX.2.2.2.2.2.2.2.2.2]; exact hs) (hR pc ls v σ H locs hv d hF hN hH hS)
def pw_z (v : Int32) (σ : pw_Sto) : Option (Int32 × pw_Sto) := if v = 0 ∨ v = 1 then some (v, σ) else none
theorem sp_zretg {X : pw_X Int32} (hX : pw_Ok X cc own rm nL) (hR : pw_RZ X cc) {v : Int32} (hc : cells = rm.cells) (hs : slots ≤ rm.slots) (d : decode cc pc = .ok (.ireturn, 1)) : pw_Sp X cells slots pc L [.int v] σ (pw_z v σ) := by
  by_cases h : v = 0 ∨ v = 1
  · unfold pw_z
    rw [if_pos h]
    exact sp_zret hX hR h hc hs d
  · unfold pw_z
    rw [if_neg h]
    exact pw_none
theorem sp_lret {X : pw_X Int64} (hX : pw_Ok X cc own rm nL) (hR : pw_RL X cc) {v : Int64} (hc : cells = rm.cells) (hs : slots ≤ rm.slots) (d : decode cc pc = .ok (.lreturn, 1)) : pw_Sp X cells slots pc L [.long v] σ (some (v, σ)) := by
  intro hF hN H locs ls hl hH hS
  subst hc
  rw [← hX.2.2.2.2.2.2.2.2.1] at hN ⊢
  exact W.widen (Nat.le_refl _) (by rw [hX.2.2.2.2.2.2.2.2.2]; exact hs) (hR pc ls v σ H locs d hF hN hH hS)
theorem sp_vret {X : pw_X Unit} (hX : pw_Ok X cc own rm nL) (hR : pw_RV X cc) (hc : cells = rm.cells) (hs : slots ≤ rm.slots) (d : decode cc pc = .ok (.return_, 1)) : pw_Sp X cells slots pc L [] σ (some ((), σ)) := by
  intro hF hN H locs ls hl hH hS
  subst hc
  rw [← hX.2.2.2.2.2.2.2.2.1] at hN ⊢
  exact W.widen (Nat.le_refl _) (by rw [hX.2.2.2.2.2.2.2.2.2]; exact hs) (hR pc ls σ H locs d hF hN hH hS)
end PWret
theorem pw_entryI {l : Launch} {E : pw_E} {y : MethodName} {cc : ByteArray} {nL : Nat} {rm : Room} {As : List Value} {σ : pw_Sto} {out : Int32 × pw_Sto} {F : Option (Int32 × pw_Sto)} (hy : plainName y.cls = true) (hnl : (lg_sl As).length ≤ nL) (h : F = some out)
    (body : ∀ X : pw_X Int32, pw_Ok X cc y.cls rm nL → pw_RI X cc → X.1.2.2.2.2.2.2.2.2.1.name = y.name → pw_Sp X 0 0 0 (lv_args 0 As) [] σ F) : pw_CI l E y cc nL (some .int) rm As σ out := by
  refine Met.ofW (cc := cc) (maxL := nL) (ret := (some .int)) hy rfl ?_
  intro p e s m args below meth c s₁ B hml hv
  obtain ⟨rfl, hH, hsz, hT⟩ := hv
  have hts := atoms_spec (ws := Cond.code y cc nL (some .int) :: pw_gt) B.pre
  have hlocks := B.notSynchronized
  have hr := B.returns
  have hX : ∀ Q : State → Prop, pw_Ok (((p, l, e, (headSpec (Cond.code y cc nL (some .int) :: pw_gt) rm).room, s, m, (As.map (pw_tr E.1)).toArray, below, meth, c), Q, E, out, rm.cells, rm.slots) : pw_X Int32) cc y.cls rm nL := fun Q => ⟨B.exec, B.bytes, hml, rfl, findClass_of_methodNamed B.named, fun w hw => hts w (List.mem_cons_of_mem _ hw), hT, by show E.1 ≤ s.heap.size; omega, rfl, rfl⟩
  have hl := lv_entry (As.map (pw_tr E.1)) (n := nL) (by rw [pw_sl_len]; exact hnl)
  rw [pw_args] at hl
  rw [lg_entry_eq]
  refine body _ (hX _) ?_ (name_of_methodNamed B.named B.method).1 h (by show E.1 + σ.1 = s.heap.size + 0; omega) s.heap [] _ (by rw [hml]; exact hl) hH va_S.rf
  intro pc' ls' v' σ' H' locs' d' hF' hN' hH' hS'
  intro T hTT XX
  have hle : T.heap.size ≤ s.heap.size + rm.cells := XX.heapSize
  have hsz2 : T.heap.size = E.1 + σ'.1 := pw_size (n0 := s.heap.size) (cells := rm.cells) (by rw [hTT]; exact hH') (by omega) (by rw [hTT]; exact hS'.1) hN' hle
  have hF2 : (v', σ') = out := Option.some.inj hF'
  have hN2 : E.1 + σ'.1 = s.heap.size + rm.cells := hN'
  refine W.iret (v := v') B.exec B.bytes hr (fun t ht hW => ⟨⟨v', (), rfl, ⟨by rw [← hF2], by rw [← hF2]; show σ'.1 = σ.1 + rm.cells; omega⟩, ?_, ?_, pw_T.moved hW hT⟩, hS'.F ht⟩) hS'.2.2 d' hlocks T hTT XX
  · rw [ht]; show pw_H E out.2 H'; rw [← hF2]; exact hH'
  · rw [ht, ← hTT]; show T.heap.size = E.1 + out.2.1; rw [← hF2]; exact hsz2
theorem pw_entryZ {l : Launch} {E : pw_E} {y : MethodName} {cc : ByteArray} {nL : Nat} {rm : Room} {As : List Value} {σ : pw_Sto} {out : Int32 × pw_Sto} {F : Option (Int32 × pw_Sto)} (hy : plainName y.cls = true) (hnl : (lg_sl As).length ≤ nL) (h : F = some out)
    (body : ∀ X : pw_X Int32, pw_Ok X cc y.cls rm nL → pw_RZ X cc → X.1.2.2.2.2.2.2.2.2.1.name = y.name → pw_Sp X 0 0 0 (lv_args 0 As) [] σ F) : pw_CI l E y cc nL (some .boolean) rm As σ out := by
  refine Met.ofW (cc := cc) (maxL := nL) (ret := (some .boolean)) hy rfl ?_
  intro p e s m args below meth c s₁ B hml hv
  obtain ⟨rfl, hH, hsz, hT⟩ := hv
  have hts := atoms_spec (ws := Cond.code y cc nL (some .boolean) :: pw_gt) B.pre
  have hlocks := B.notSynchronized
  have hr := B.returns
  have hX : ∀ Q : State → Prop, pw_Ok (((p, l, e, (headSpec (Cond.code y cc nL (some .boolean) :: pw_gt) rm).room, s, m, (As.map (pw_tr E.1)).toArray, below, meth, c), Q, E, out, rm.cells, rm.slots) : pw_X Int32) cc y.cls rm nL := fun Q => ⟨B.exec, B.bytes, hml, rfl, findClass_of_methodNamed B.named, fun w hw => hts w (List.mem_cons_of_mem _ hw), hT, by show E.1 ≤ s.heap.size; omega, rfl, rfl⟩
  have hl := lv_entry (As.map (pw_tr E.1)) (n := nL) (by rw [pw_sl_len]; exact hnl)
  rw [pw_args] at hl
  rw [lg_entry_eq]
  refine body _ (hX _) ?_ (name_of_methodNamed B.named B.method).1 h (by show E.1 + σ.1 = s.heap.size + 0; omega) s.heap [] _ (by rw [hml]; exact hl) hH va_S.rf
  intro pc' ls' v' σ' H' locs' hz' d' hF' hN' hH' hS'
  intro T hTT XX
  have hle : T.heap.size ≤ s.heap.size + rm.cells := XX.heapSize
  have hsz2 : T.heap.size = E.1 + σ'.1 := pw_size (n0 := s.heap.size) (cells := rm.cells) (by rw [hTT]; exact hH') (by omega) (by rw [hTT]; exact hS'.1) hN' hle
  have hF2 : (v', σ') = out := Option.some.inj hF'
  have hN2 : E.1 + σ'.1 = s.heap.size + rm.cells := hN'
  refine W.zret (v := v') (ty := .boolean) B.exec B.bytes hr (by rcases hz' with q | q <;> rw [q] <;> rfl) (fun t ht hW => ⟨⟨v', (), rfl, ⟨by rw [← hF2], by rw [← hF2]; show σ'.1 = σ.1 + rm.cells; omega⟩, ?_, ?_, pw_T.moved hW hT⟩, hS'.F ht⟩) hS'.2.2 d' hlocks T hTT XX
  · rw [ht]; show pw_H E out.2 H'; rw [← hF2]; exact hH'
  · rw [ht, ← hTT]; show T.heap.size = E.1 + out.2.1; rw [← hF2]; exact hsz2
theorem pw_entryL {l : Launch} {E : pw_E} {y : MethodName} {cc : ByteArray} {nL : Nat} {rm : Room} {As : List Value} {σ : pw_Sto} {out : Int64 × pw_Sto} {F : Option (Int64 × pw_Sto)} (hy : plainName y.cls = true) (hnl : (lg_sl As).length ≤ nL) (h : F = some out)
    (body : ∀ X : pw_X Int64, pw_Ok X cc y.cls rm nL → pw_RL X cc → X.1.2.2.2.2.2.2.2.2.1.name = y.name → pw_Sp X 0 0 0 (lv_args 0 As) [] σ F) : pw_CL l E y cc nL (some .long) rm As σ out := by
  refine Met.ofW (cc := cc) (maxL := nL) (ret := (some .long)) hy rfl ?_
  intro p e s m args below meth c s₁ B hml hv
  obtain ⟨rfl, hH, hsz, hT⟩ := hv
  have hts := atoms_spec (ws := Cond.code y cc nL (some .long) :: pw_gt) B.pre
  have hlocks := B.notSynchronized
  have hr := B.returns
  have hX : ∀ Q : State → Prop, pw_Ok (((p, l, e, (headSpec (Cond.code y cc nL (some .long) :: pw_gt) rm).room, s, m, (As.map (pw_tr E.1)).toArray, below, meth, c), Q, E, out, rm.cells, rm.slots) : pw_X Int64) cc y.cls rm nL := fun Q => ⟨B.exec, B.bytes, hml, rfl, findClass_of_methodNamed B.named, fun w hw => hts w (List.mem_cons_of_mem _ hw), hT, by show E.1 ≤ s.heap.size; omega, rfl, rfl⟩
  have hl := lv_entry (As.map (pw_tr E.1)) (n := nL) (by rw [pw_sl_len]; exact hnl)
  rw [pw_args] at hl
  rw [lg_entry_eq]
  refine body _ (hX _) ?_ (name_of_methodNamed B.named B.method).1 h (by show E.1 + σ.1 = s.heap.size + 0; omega) s.heap [] _ (by rw [hml]; exact hl) hH va_S.rf
  intro pc' ls' v' σ' H' locs' d' hF' hN' hH' hS'
  intro T hTT XX
  have hle : T.heap.size ≤ s.heap.size + rm.cells := XX.heapSize
  have hsz2 : T.heap.size = E.1 + σ'.1 := pw_size (n0 := s.heap.size) (cells := rm.cells) (by rw [hTT]; exact hH') (by omega) (by rw [hTT]; exact hS'.1) hN' hle
  have hF2 : (v', σ') = out := Option.some.inj hF'
  have hN2 : E.1 + σ'.1 = s.heap.size + rm.cells := hN'
  refine W.lret (v := v') B.exec B.bytes hr (fun t ht hW => ⟨⟨v', (), rfl, ⟨by rw [← hF2], by rw [← hF2]; show σ'.1 = σ.1 + rm.cells; omega⟩, ?_, ?_, pw_T.moved hW hT⟩, hS'.F ht⟩) hS'.2.2 d' hlocks T hTT XX
  · rw [ht]; show pw_H E out.2 H'; rw [← hF2]; exact hH'
  · rw [ht, ← hTT]; show T.heap.size = E.1 + out.2.1; rw [← hF2]; exact hsz2
theorem pw_entryV {l : Launch} {E : pw_E} {y : MethodName} {cc : ByteArray} {nL : Nat} {rm : Room} {As : List Value} {σ : pw_Sto} {out : Unit × pw_Sto} {F : Option (Unit × pw_Sto)} (hy : plainName y.cls = true) (hnl : (lg_sl As).length ≤ nL) (h : F = some out)
    (body : ∀ X : pw_X Unit, pw_Ok X cc y.cls rm nL → pw_RV X cc → X.1.2.2.2.2.2.2.2.2.1.name = y.name → pw_Sp X 0 0 0 (lv_args 0 As) [] σ F) : pw_CV l E y cc nL none rm As σ out := by
  refine Met.ofW (cc := cc) (maxL := nL) (ret := none) hy rfl ?_
  intro p e s m args below meth c s₁ B hml hv
  obtain ⟨rfl, hH, hsz, hT⟩ := hv
  have hts := atoms_spec (ws := Cond.code y cc nL none :: pw_gt) B.pre
  have hlocks := B.notSynchronized
  have hr := B.returns
  have hX : ∀ Q : State → Prop, pw_Ok (((p, l, e, (headSpec (Cond.code y cc nL none :: pw_gt) rm).room, s, m, (As.map (pw_tr E.1)).toArray, below, meth, c), Q, E, out, rm.cells, rm.slots) : pw_X Unit) cc y.cls rm nL := fun Q => ⟨B.exec, B.bytes, hml, rfl, findClass_of_methodNamed B.named, fun w hw => hts w (List.mem_cons_of_mem _ hw), hT, by show E.1 ≤ s.heap.size; omega, rfl, rfl⟩
  have hl := lv_entry (As.map (pw_tr E.1)) (n := nL) (by rw [pw_sl_len]; exact hnl)
  rw [pw_args] at hl
  rw [lg_entry_eq]
  refine body _ (hX _) ?_ (name_of_methodNamed B.named B.method).1 h (by show E.1 + σ.1 = s.heap.size + 0; omega) s.heap [] _ (by rw [hml]; exact hl) hH va_S.rf
  intro pc' ls' σ' H' locs' d' hF' hN' hH' hS'
  intro T hTT XX
  have hle : T.heap.size ≤ s.heap.size + rm.cells := XX.heapSize
  have hsz2 : T.heap.size = E.1 + σ'.1 := pw_size (n0 := s.heap.size) (cells := rm.cells) (by rw [hTT]; exact hH') (by omega) (by rw [hTT]; exact hS'.1) hN' hle
  have hF2 : ((), σ') = out := Option.some.inj hF'
  have hN2 : E.1 + σ'.1 = s.heap.size + rm.cells := hN'
  refine W.vret B.exec B.bytes hr (fun t ht hW => ⟨⟨(), rfl, by rw [← hF2]; show σ'.1 = σ.1 + rm.cells; omega, ?_, ?_, pw_T.moved hW hT⟩, hS'.F ht⟩) hS'.2.2 d' hlocks T hTT XX
  · rw [ht]; show pw_H E out.2 H'; rw [← hF2]; exact hH'
  · rw [ht, ← hTT]; show T.heap.size = E.1 + out.2.1; rw [← hF2]; exact hsz2
def pw_Cal (y : MethodName) (cc : ByteArray) (nL : Nat) (ret : Option FieldType) (n : Nat) : Prop := Cond.code y cc nL ret ∈ pw_gt ∧ Cond.initialized y.cls ∈ pw_gt ∧ (y.cls ≠ "java/lang/invoke/MethodHandle" ∧ y.cls ≠ "java/lang/invoke/VarHandle" ∧ (parseMethodDescriptor y.desc).map (fun d => d.parameters.length) = some n)
def pw_CalV (y : MethodName) : Prop := Cond.instanceMethod y ∈ pw_gt ∧ Cond.selects y.cls y y ∈ pw_gt
section PWcall
variable {α : Type} {X : pw_X α} {cc ccy : ByteArray} {own host : String} {rm rmy : Room} {nL nLy n idx cells slots cells' slots' pc : Nat} {L : List (Nat × Value)} {st stk As : List Value} {σ : pw_Sto} {y : MethodName} {ret : Option FieldType} {o ci : Nat} {T : u_T} {N : Nat} {Y : Nat → FieldType}
theorem pw_cat (b : Nat) (st : List Value) : ((st.map (pw_tr b)).map fun v => v.category) = st.map fun v => v.category := by
  rw [List.map_map]
  congr 1
  funext v
  exact pw_tr_cat b v
theorem sp_callVI (hX : pw_Ok X cc own rm nL) {f : Option (Int32 × pw_Sto)} (hM : ∀ out, f = some out → pw_CI X.1.2.1 X.2.2.1 y ccy nLy ret rmy (.ref o :: As) σ out) (hB : pw_Cal y ccy nLy ret n) (hV : pw_CalV y) (hC : pw_Cl ci y.cls T N Y) (hg : ∀ out, f = some out → o < σ.1 ∧ (pw_sh o).1 = ci) (hw : Cond.methodLink own idx y ∈ pw_gt) (hR : rmy.frames + 1 ≤ rm.frames ∧ 8 + (nLy + 11) + rmy.locals ≤ rm.locals) (hn : As.length = n) (hstk : As.reverse ++ .ref o :: st = stk) (hst : (st.map fun v => v.category).sum ≤ 8) (hcs : cells + rmy.cells ≤ rm.cells ∧ slots + rmy.slots ≤ rm.slots) (hc1 : cells + rmy.cells = cells') (hc2 : slots + rmy.slots = slots') (d : decode cc pc = .ok (.invokevirtual idx, 3)) {g : Int32 × pw_Sto → Option (α × pw_Sto)} (K : ∀ r σ', pw_Sp X cells' slots' (pc + 3) L (.int r :: st) σ' (g (r, σ'))) : pw_Sp X cells slots pc L stk σ (f.bind g) := by
  subst hstk
  subst hc1
  subst hc2
  obtain ⟨⟨p, l, e, R, s, m, args, below, meth, c⟩, Q, ⟨b, D, c1, c2, c3⟩, out, mc, ms⟩ := X
  intro hF hN H locs ls hl hH hS
  cases hf : f with
  | none => rw [hf] at hF; cases hF
  | some out' =>
    rw [hf] at hF
    intro TT hTT XX
    have hle : TT.heap.size ≤ s.heap.size + cells := XX.heapSize
    rw [hTT] at hle
    have hsz : H.size = b + σ.1 := pw_size (E := (b, D, c1, c2, c3)) (n0 := s.heap.size) (cells := cells) hH hX.2.2.2.2.2.2.2.1 hS.1 hN hle
    refine va_calli (va_runV (As := As.map (pw_tr b)) (rest := st.map (pw_tr b)) ⟨hX.1, hX.2.1, hX.2.2.1, hX.2.2.2.2.1, hX.2.2.2.2.2.1⟩ (hM out' hf) ⟨callB_of n (hX.2.2.2.2.2.1) (pw_good hB.1) rfl rfl rfl (hX.2.2.2.2.2.1 _ hB.2.1) (hX.2.2.2.2.2.1 _ hw) hB.2.2 (by rw [hX.2.2.2.1]; exact hR), hX.2.2.2.2.2.1 _ hV.1, hX.2.2.2.2.2.1 _ hV.2⟩ ⟨pw_blind, va_recv hX.2.2.2.2.2.2.1.1 hH (ci := ci) (q0 := o) hC.1 (by rw [pw_ws_at (hg out' hf).1, pw_cell_o (hg out' hf).2 hC.2.1]), fun U hU hW => ⟨rfl, by rw [hU]; exact hH, by rw [hU]; exact hsz, pw_T.moved hW hX.2.2.2.2.2.2.1⟩⟩ rfl (by rw [List.length_map]; exact hn) (by rw [← hX.2.2.1]; exact hl.1) (by rw [List.map_append, List.map_reverse]; rfl) (lv_room (by rw [pw_cat]; exact hst)) d (by rw [hX.2.2.2.1]; exact hcs)) hS (fun q _ h => h) (fun q h => h) (fun r u t H1 locs1 ht hvm hw hB hz1 hk1 hS1 => ?_) TT hTT XX
    have hN2 : b + out'.2.1 = s.heap.size + (cells + rmy.cells) := by
      have h9 := hw.2
      have h8 : b + σ.1 = s.heap.size + cells := hN
      omega
    rw [hw.1]
    exact K out'.1 out'.2 hF hN2 H1 locs1 ls hl (by rw [← ht]; exact hB.1) hS1
theorem sp_callVL (hX : pw_Ok X cc own rm nL) {f : Option (Int64 × pw_Sto)} (hM : ∀ out, f = some out → pw_CL X.1.2.1 X.2.2.1 y ccy nLy ret rmy (.ref o :: As) σ out) (hB : pw_Cal y ccy nLy ret n) (hV : pw_CalV y) (hC : pw_Cl ci y.cls T N Y) (hg : ∀ out, f = some out → o < σ.1 ∧ (pw_sh o).1 = ci) (hw : Cond.methodLink own idx y ∈ pw_gt) (hR : rmy.frames + 1 ≤ rm.frames ∧ 8 + (nLy + 11) + rmy.locals ≤ rm.locals) (hn : As.length = n) (hstk : As.reverse ++ .ref o :: st = stk) (hst : (st.map fun v => v.category).sum ≤ 8) (hcs : cells + rmy.cells ≤ rm.cells ∧ slots + rmy.slots ≤ rm.slots) (hc1 : cells + rmy.cells = cells') (hc2 : slots + rmy.slots = slots') (d : decode cc pc = .ok (.invokevirtual idx, 3)) {g : Int64 × pw_Sto → Option (α × pw_Sto)} (K : ∀ r σ', pw_Sp X cells' slots' (pc + 3) L (.long r :: st) σ' (g (r, σ'))) : pw_Sp X cells slots pc L stk σ (f.bind g) := by
  subst hstk
  subst hc1
  subst hc2
  obtain ⟨⟨p, l, e, R, s, m, args, below, meth, c⟩, Q, ⟨b, D, c1, c2, c3⟩, out, mc, ms⟩ := X
  intro hF hN H locs ls hl hH hS
  cases hf : f with
  | none => rw [hf] at hF; cases hF
  | some out' =>
    rw [hf] at hF
    intro TT hTT XX
    have hle : TT.heap.size ≤ s.heap.size + cells := XX.heapSize
    rw [hTT] at hle
    have hsz : H.size = b + σ.1 := pw_size (E := (b, D, c1, c2, c3)) (n0 := s.heap.size) (cells := cells) hH hX.2.2.2.2.2.2.2.1 hS.1 hN hle
    refine va_calll (va_runV (As := As.map (pw_tr b)) (rest := st.map (pw_tr b)) ⟨hX.1, hX.2.1, hX.2.2.1, hX.2.2.2.2.1, hX.2.2.2.2.2.1⟩ (hM out' hf) ⟨callB_of n (hX.2.2.2.2.2.1) (pw_good hB.1) rfl rfl rfl (hX.2.2.2.2.2.1 _ hB.2.1) (hX.2.2.2.2.2.1 _ hw) hB.2.2 (by rw [hX.2.2.2.1]; exact hR), hX.2.2.2.2.2.1 _ hV.1, hX.2.2.2.2.2.1 _ hV.2⟩ ⟨pw_blind, va_recv hX.2.2.2.2.2.2.1.1 hH (ci := ci) (q0 := o) hC.1 (by rw [pw_ws_at (hg out' hf).1, pw_cell_o (hg out' hf).2 hC.2.1]), fun U hU hW => ⟨rfl, by rw [hU]; exact hH, by rw [hU]; exact hsz, pw_T.moved hW hX.2.2.2.2.2.2.1⟩⟩ rfl (by rw [List.length_map]; exact hn) (by rw [← hX.2.2.1]; exact hl.1) (by rw [List.map_append, List.map_reverse]; rfl) (lv_room (by rw [pw_cat]; exact hst)) d (by rw [hX.2.2.2.1]; exact hcs)) hS (fun q _ h => h) (fun q h => h) (fun r u t H1 locs1 ht hvm hw hB hz1 hk1 hS1 => ?_) TT hTT XX
    have hN2 : b + out'.2.1 = s.heap.size + (cells + rmy.cells) := by
      have h9 := hw.2
      have h8 : b + σ.1 = s.heap.size + cells := hN
      omega
    rw [hw.1]
    exact K out'.1 out'.2 hF hN2 H1 locs1 ls hl (by rw [← ht]; exact hB.1) hS1
theorem sp_callVV (hX : pw_Ok X cc own rm nL) {f : Option (Unit × pw_Sto)} (hM : ∀ out, f = some out → pw_CV X.1.2.1 X.2.2.1 y ccy nLy ret rmy (.ref o :: As) σ out) (hB : pw_Cal y ccy nLy ret n) (hV : pw_CalV y) (hC : pw_Cl ci y.cls T N Y) (hg : ∀ out, f = some out → o < σ.1 ∧ (pw_sh o).1 = ci) (hw : Cond.methodLink own idx y ∈ pw_gt) (hR : rmy.frames + 1 ≤ rm.frames ∧ 8 + (nLy + 11) + rmy.locals ≤ rm.locals) (hn : As.length = n) (hstk : As.reverse ++ .ref o :: st = stk) (hst : (st.map fun v => v.category).sum ≤ 8) (hcs : cells + rmy.cells ≤ rm.cells ∧ slots + rmy.slots ≤ rm.slots) (hc1 : cells + rmy.cells = cells') (hc2 : slots + rmy.slots = slots') (d : decode cc pc = .ok (.invokevirtual idx, 3)) {g : Unit × pw_Sto → Option (α × pw_Sto)} (K : ∀ σ', pw_Sp X cells' slots' (pc + 3) L (st) σ' (g ((), σ'))) : pw_Sp X cells slots pc L stk σ (f.bind g) := by
  subst hstk
  subst hc1
  subst hc2
  obtain ⟨⟨p, l, e, R, s, m, args, below, meth, c⟩, Q, ⟨b, D, c1, c2, c3⟩, out, mc, ms⟩ := X
  intro hF hN H locs ls hl hH hS
  cases hf : f with
  | none => rw [hf] at hF; cases hF
  | some out' =>
    rw [hf] at hF
    intro TT hTT XX
    have hle : TT.heap.size ≤ s.heap.size + cells := XX.heapSize
    rw [hTT] at hle
    have hsz : H.size = b + σ.1 := pw_size (E := (b, D, c1, c2, c3)) (n0 := s.heap.size) (cells := cells) hH hX.2.2.2.2.2.2.2.1 hS.1 hN hle
    refine va_callv (va_runV (As := As.map (pw_tr b)) (rest := st.map (pw_tr b)) ⟨hX.1, hX.2.1, hX.2.2.1, hX.2.2.2.2.1, hX.2.2.2.2.2.1⟩ (hM out' hf) ⟨callB_of n (hX.2.2.2.2.2.1) (pw_good hB.1) rfl rfl rfl (hX.2.2.2.2.2.1 _ hB.2.1) (hX.2.2.2.2.2.1 _ hw) hB.2.2 (by rw [hX.2.2.2.1]; exact hR), hX.2.2.2.2.2.1 _ hV.1, hX.2.2.2.2.2.1 _ hV.2⟩ ⟨pw_blind, va_recv hX.2.2.2.2.2.2.1.1 hH (ci := ci) (q0 := o) hC.1 (by rw [pw_ws_at (hg out' hf).1, pw_cell_o (hg out' hf).2 hC.2.1]), fun U hU hW => ⟨rfl, by rw [hU]; exact hH, by rw [hU]; exact hsz, pw_T.moved hW hX.2.2.2.2.2.2.1⟩⟩ rfl (by rw [List.length_map]; exact hn) (by rw [← hX.2.2.1]; exact hl.1) (by rw [List.map_append, List.map_reverse]; rfl) (lv_room (by rw [pw_cat]; exact hst)) d (by rw [hX.2.2.2.1]; exact hcs)) hS (fun q _ h => h) (fun q h => h) (fun u t H1 locs1 ht hvm hw hB hz1 hk1 hS1 => ?_) TT hTT XX
    have hN2 : b + out'.2.1 = s.heap.size + (cells + rmy.cells) := by
      have h9 := hw
      have h8 : b + σ.1 = s.heap.size + cells := hN
      omega
    exact K out'.2 hF hN2 H1 locs1 ls hl (by rw [← ht]; exact hB.1) hS1
theorem sp_callVIN (hX : pw_Ok X cc own rm nL) {f : Option (Int32 × pw_Sto)} (hM : ∀ out, f = some out → pw_CI X.1.2.1 X.2.2.1 y ccy nLy ret rmy (.ref o :: As) σ out) (hB : pw_Cal y ccy nLy ret n) (hV : pw_CalV y) (hC : pw_Cl ci y.cls T N Y) (hg : ∀ out, f = some out → o < σ.1 ∧ (pw_sh o).1 = ci) (hw : Cond.methodLinkNest own idx y host ∈ pw_nest) (hR : rmy.frames + 1 ≤ rm.frames ∧ 8 + (nLy + 11) + rmy.locals ≤ rm.locals) (hn : As.length = n) (hstk : As.reverse ++ .ref o :: st = stk) (hst : (st.map fun v => v.category).sum ≤ 8) (hcs : cells + rmy.cells ≤ rm.cells ∧ slots + rmy.slots ≤ rm.slots) (hc1 : cells + rmy.cells = cells') (hc2 : slots + rmy.slots = slots') (d : decode cc pc = .ok (.invokevirtual idx, 3)) {g : Int32 × pw_Sto → Option (α × pw_Sto)} (K : ∀ r σ', pw_Sp X cells' slots' (pc + 3) L (.int r :: st) σ' (g (r, σ'))) : pw_Sp X cells slots pc L stk σ (f.bind g) := by
  subst hstk
  subst hc1
  subst hc2
  obtain ⟨⟨p, l, e, R, s, m, args, below, meth, c⟩, Q, ⟨b, D, c1, c2, c3⟩, out, mc, ms⟩ := X
  intro hF hN H locs ls hl hH hS
  cases hf : f with
  | none => rw [hf] at hF; cases hF
  | some out' =>
    rw [hf] at hF
    intro TT hTT XX
    have hle : TT.heap.size ≤ s.heap.size + cells := XX.heapSize
    rw [hTT] at hle
    have hsz : H.size = b + σ.1 := pw_size (E := (b, D, c1, c2, c3)) (n0 := s.heap.size) (cells := cells) hH hX.2.2.2.2.2.2.2.1 hS.1 hN hle
    refine va_calli (va_runVN (As := As.map (pw_tr b)) (rest := st.map (pw_tr b)) ⟨hX.1, hX.2.1, hX.2.2.1, hX.2.2.2.2.1, hX.2.2.2.2.2.1⟩ (hM out' hf) ⟨va_cnB n (hX.2.2.2.2.2.1) (pw_good hB.1) rfl rfl rfl (hX.2.2.2.2.2.2.1.2 _ hw) (hX.2.2.2.2.2.1 _ hB.2.1) hB.2.2 (by rw [hX.2.2.2.1]; exact hR), hX.2.2.2.2.2.1 _ hV.1, hX.2.2.2.2.2.1 _ hV.2⟩ ⟨pw_blind, va_recv hX.2.2.2.2.2.2.1.1 hH (ci := ci) (q0 := o) hC.1 (by rw [pw_ws_at (hg out' hf).1, pw_cell_o (hg out' hf).2 hC.2.1]), fun U hU hW => ⟨rfl, by rw [hU]; exact hH, by rw [hU]; exact hsz, pw_T.moved hW hX.2.2.2.2.2.2.1⟩⟩ rfl (by rw [List.length_map]; exact hn) (by rw [← hX.2.2.1]; exact hl.1) (by rw [List.map_append, List.map_reverse]; rfl) (lv_room (by rw [pw_cat]; exact hst)) d (by rw [hX.2.2.2.1]; exact hcs)) hS (fun q _ h => h) (fun q h => h) (fun r u t H1 locs1 ht hvm hw hB hz1 hk1 hS1 => ?_) TT hTT XX
    have hN2 : b + out'.2.1 = s.heap.size + (cells + rmy.cells) := by
      have h9 := hw.2
      have h8 : b + σ.1 = s.heap.size + cells := hN
      omega
    rw [hw.1]
    exact K out'.1 out'.2 hF hN2 H1 locs1 ls hl (by rw [← ht]; exact hB.1) hS1
theorem sp_callVLN (hX : pw_Ok X cc own rm nL) {f : Option (Int64 × pw_Sto)} (hM : ∀ out, f = some out → pw_CL X.1.2.1 X.2.2.1 y ccy nLy ret rmy (.ref o :: As) σ out) (hB : pw_Cal y ccy nLy ret n) (hV : pw_CalV y) (hC : pw_Cl ci y.cls T N Y) (hg : ∀ out, f = some out → o < σ.1 ∧ (pw_sh o).1 = ci) (hw : Cond.methodLinkNest own idx y host ∈ pw_nest) (hR : rmy.frames + 1 ≤ rm.frames ∧ 8 + (nLy + 11) + rmy.locals ≤ rm.locals) (hn : As.length = n) (hstk : As.reverse ++ .ref o :: st = stk) (hst : (st.map fun v => v.category).sum ≤ 8) (hcs : cells + rmy.cells ≤ rm.cells ∧ slots + rmy.slots ≤ rm.slots) (hc1 : cells + rmy.cells = cells') (hc2 : slots + rmy.slots = slots') (d : decode cc pc = .ok (.invokevirtual idx, 3)) {g : Int64 × pw_Sto → Option (α × pw_Sto)} (K : ∀ r σ', pw_Sp X cells' slots' (pc + 3) L (.long r :: st) σ' (g (r, σ'))) : pw_Sp X cells slots pc L stk σ (f.bind g) := by
  subst hstk
  subst hc1
  subst hc2
  obtain ⟨⟨p, l, e, R, s, m, args, below, meth, c⟩, Q, ⟨b, D, c1, c2, c3⟩, out, mc, ms⟩ := X
  intro hF hN H locs ls hl hH hS
  cases hf : f with
  | none => rw [hf] at hF; cases hF
  | some out' =>
    rw [hf] at hF
    intro TT hTT XX
    have hle : TT.heap.size ≤ s.heap.size + cells := XX.heapSize
    rw [hTT] at hle
    have hsz : H.size = b + σ.1 := pw_size (E := (b, D, c1, c2, c3)) (n0 := s.heap.size) (cells := cells) hH hX.2.2.2.2.2.2.2.1 hS.1 hN hle
    refine va_calll (va_runVN (As := As.map (pw_tr b)) (rest := st.map (pw_tr b)) ⟨hX.1, hX.2.1, hX.2.2.1, hX.2.2.2.2.1, hX.2.2.2.2.2.1⟩ (hM out' hf) ⟨va_cnB n (hX.2.2.2.2.2.1) (pw_good hB.1) rfl rfl rfl (hX.2.2.2.2.2.2.1.2 _ hw) (hX.2.2.2.2.2.1 _ hB.2.1) hB.2.2 (by rw [hX.2.2.2.1]; exact hR), hX.2.2.2.2.2.1 _ hV.1, hX.2.2.2.2.2.1 _ hV.2⟩ ⟨pw_blind, va_recv hX.2.2.2.2.2.2.1.1 hH (ci := ci) (q0 := o) hC.1 (by rw [pw_ws_at (hg out' hf).1, pw_cell_o (hg out' hf).2 hC.2.1]), fun U hU hW => ⟨rfl, by rw [hU]; exact hH, by rw [hU]; exact hsz, pw_T.moved hW hX.2.2.2.2.2.2.1⟩⟩ rfl (by rw [List.length_map]; exact hn) (by rw [← hX.2.2.1]; exact hl.1) (by rw [List.map_append, List.map_reverse]; rfl) (lv_room (by rw [pw_cat]; exact hst)) d (by rw [hX.2.2.2.1]; exact hcs)) hS (fun q _ h => h) (fun q h => h) (fun r u t H1 locs1 ht hvm hw hB hz1 hk1 hS1 => ?_) TT hTT XX
    have hN2 : b + out'.2.1 = s.heap.size + (cells + rmy.cells) := by
      have h9 := hw.2
      have h8 : b + σ.1 = s.heap.size + cells := hN
      omega
    rw [hw.1]
    exact K out'.1 out'.2 hF hN2 H1 locs1 ls hl (by rw [← ht]; exact hB.1) hS1
theorem sp_callVVN (hX : pw_Ok X cc own rm nL) {f : Option (Unit × pw_Sto)} (hM : ∀ out, f = some out → pw_CV X.1.2.1 X.2.2.1 y ccy nLy ret rmy (.ref o :: As) σ out) (hB : pw_Cal y ccy nLy ret n) (hV : pw_CalV y) (hC : pw_Cl ci y.cls T N Y) (hg : ∀ out, f = some out → o < σ.1 ∧ (pw_sh o).1 = ci) (hw : Cond.methodLinkNest own idx y host ∈ pw_nest) (hR : rmy.frames + 1 ≤ rm.frames ∧ 8 + (nLy + 11) + rmy.locals ≤ rm.locals) (hn : As.length = n) (hstk : As.reverse ++ .ref o :: st = stk) (hst : (st.map fun v => v.category).sum ≤ 8) (hcs : cells + rmy.cells ≤ rm.cells ∧ slots + rmy.slots ≤ rm.slots) (hc1 : cells + rmy.cells = cells') (hc2 : slots + rmy.slots = slots') (d : decode cc pc = .ok (.invokevirtual idx, 3)) {g : Unit × pw_Sto → Option (α × pw_Sto)} (K : ∀ σ', pw_Sp X cells' slots' (pc + 3) L (st) σ' (g ((), σ'))) : pw_Sp X cells slots pc L stk σ (f.bind g) := by
  subst hstk
  subst hc1
  subst hc2
  obtain ⟨⟨p, l, e, R, s, m, args, below, meth, c⟩, Q, ⟨b, D, c1, c2, c3⟩, out, mc, ms⟩ := X
  intro hF hN H locs ls hl hH hS
  cases hf : f with
  | none => rw [hf] at hF; cases hF
  | some out' =>
    rw [hf] at hF
    intro TT hTT XX
    have hle : TT.heap.size ≤ s.heap.size + cells := XX.heapSize
    rw [hTT] at hle
    have hsz : H.size = b + σ.1 := pw_size (E := (b, D, c1, c2, c3)) (n0 := s.heap.size) (cells := cells) hH hX.2.2.2.2.2.2.2.1 hS.1 hN hle
    refine va_callv (va_runVN (As := As.map (pw_tr b)) (rest := st.map (pw_tr b)) ⟨hX.1, hX.2.1, hX.2.2.1, hX.2.2.2.2.1, hX.2.2.2.2.2.1⟩ (hM out' hf) ⟨va_cnB n (hX.2.2.2.2.2.1) (pw_good hB.1) rfl rfl rfl (hX.2.2.2.2.2.2.1.2 _ hw) (hX.2.2.2.2.2.1 _ hB.2.1) hB.2.2 (by rw [hX.2.2.2.1]; exact hR), hX.2.2.2.2.2.1 _ hV.1, hX.2.2.2.2.2.1 _ hV.2⟩ ⟨pw_blind, va_recv hX.2.2.2.2.2.2.1.1 hH (ci := ci) (q0 := o) hC.1 (by rw [pw_ws_at (hg out' hf).1, pw_cell_o (hg out' hf).2 hC.2.1]), fun U hU hW => ⟨rfl, by rw [hU]; exact hH, by rw [hU]; exact hsz, pw_T.moved hW hX.2.2.2.2.2.2.1⟩⟩ rfl (by rw [List.length_map]; exact hn) (by rw [← hX.2.2.1]; exact hl.1) (by rw [List.map_append, List.map_reverse]; rfl) (lv_room (by rw [pw_cat]; exact hst)) d (by rw [hX.2.2.2.1]; exact hcs)) hS (fun q _ h => h) (fun q h => h) (fun u t H1 locs1 ht hvm hw hB hz1 hk1 hS1 => ?_) TT hTT XX
    have hN2 : b + out'.2.1 = s.heap.size + (cells + rmy.cells) := by
      have h9 := hw
      have h8 : b + σ.1 = s.heap.size + cells := hN
      omega
    exact K out'.2 hF hN2 H1 locs1 ls hl (by rw [← ht]; exact hB.1) hS1
theorem sp_callSI (hX : pw_Ok X cc own rm nL) {f : Option (Int32 × pw_Sto)} (hM : ∀ out, f = some out → pw_CI X.1.2.1 X.2.2.1 y ccy nLy ret rmy As σ out) (hB : pw_Cal y ccy nLy ret n) (hV : Cond.static y ∈ pw_gt) (hw : Cond.methodLink own idx y ∈ pw_gt) (hR : rmy.frames + 1 ≤ rm.frames ∧ 8 + (nLy + 11) + rmy.locals ≤ rm.locals) (hn : As.length = n) (hstk : As.reverse ++ st = stk) (hst : (st.map fun v => v.category).sum ≤ 8) (hcs : cells + rmy.cells ≤ rm.cells ∧ slots + rmy.slots ≤ rm.slots) (hc1 : cells + rmy.cells = cells') (hc2 : slots + rmy.slots = slots') (d : decode cc pc = .ok (.invokestatic idx, 3)) {g : Int32 × pw_Sto → Option (α × pw_Sto)} (K : ∀ r σ', pw_Sp X cells' slots' (pc + 3) L (.int r :: st) σ' (g (r, σ'))) : pw_Sp X cells slots pc L stk σ (f.bind g) := by
  subst hstk
  subst hc1
  subst hc2
  obtain ⟨⟨p, l, e, R, s, m, args, below, meth, c⟩, Q, ⟨b, D, c1, c2, c3⟩, out, mc, ms⟩ := X
  intro hF hN H locs ls hl hH hS
  cases hf : f with
  | none => rw [hf] at hF; cases hF
  | some out' =>
    rw [hf] at hF
    intro TT hTT XX
    have hle : TT.heap.size ≤ s.heap.size + cells := XX.heapSize
    rw [hTT] at hle
    have hsz : H.size = b + σ.1 := pw_size (E := (b, D, c1, c2, c3)) (n0 := s.heap.size) (cells := cells) hH hX.2.2.2.2.2.2.2.1 hS.1 hN hle
    refine va_calli (va_runS (As := As.map (pw_tr b)) (rest := st.map (pw_tr b)) ⟨hX.1, hX.2.1, hX.2.2.1, hX.2.2.2.2.1, hX.2.2.2.2.2.1⟩ (hM out' hf) ⟨callB_of n (hX.2.2.2.2.2.1) (pw_good hB.1) rfl rfl rfl (hX.2.2.2.2.2.1 _ hB.2.1) (hX.2.2.2.2.2.1 _ hw) hB.2.2 (by rw [hX.2.2.2.1]; exact hR), hX.2.2.2.2.2.1 _ hV⟩ ⟨pw_blind, fun U hU hW => ⟨rfl, by rw [hU]; exact hH, by rw [hU]; exact hsz, pw_T.moved hW hX.2.2.2.2.2.2.1⟩⟩ rfl (by rw [List.length_map]; exact hn) (by rw [← hX.2.2.1]; exact hl.1) (by rw [List.map_append, List.map_reverse]) (lv_room (by rw [pw_cat]; exact hst)) d (by rw [hX.2.2.2.1]; exact hcs)) hS (fun q _ h => h) (fun q h => h) (fun r u t H1 locs1 ht hvm hw hB hz1 hk1 hS1 => ?_) TT hTT XX
    have hN2 : b + out'.2.1 = s.heap.size + (cells + rmy.cells) := by
      have h9 := hw.2
      have h8 : b + σ.1 = s.heap.size + cells := hN
      omega
    rw [hw.1]
    exact K out'.1 out'.2 hF hN2 H1 locs1 ls hl (by rw [← ht]; exact hB.1) hS1
theorem sp_callSL (hX : pw_Ok X cc own rm nL) {f : Option (Int64 × pw_Sto)} (hM : ∀ out, f = some out → pw_CL X.1.2.1 X.2.2.1 y ccy nLy ret rmy As σ out) (hB : pw_Cal y ccy nLy ret n) (hV : Cond.static y ∈ pw_gt) (hw : Cond.methodLink own idx y ∈ pw_gt) (hR : rmy.frames + 1 ≤ rm.frames ∧ 8 + (nLy + 11) + rmy.locals ≤ rm.locals) (hn : As.length = n) (hstk : As.reverse ++ st = stk) (hst : (st.map fun v => v.category).sum ≤ 8) (hcs : cells + rmy.cells ≤ rm.cells ∧ slots + rmy.slots ≤ rm.slots) (hc1 : cells + rmy.cells = cells') (hc2 : slots + rmy.slots = slots') (d : decode cc pc = .ok (.invokestatic idx, 3)) {g : Int64 × pw_Sto → Option (α × pw_Sto)} (K : ∀ r σ', pw_Sp X cells' slots' (pc + 3) L (.long r :: st) σ' (g (r, σ'))) : pw_Sp X cells slots pc L stk σ (f.bind g) := by
  subst hstk
  subst hc1
  subst hc2
  obtain ⟨⟨p, l, e, R, s, m, args, below, meth, c⟩, Q, ⟨b, D, c1, c2, c3⟩, out, mc, ms⟩ := X
  intro hF hN H locs ls hl hH hS
  cases hf : f with
  | none => rw [hf] at hF; cases hF
  | some out' =>
    rw [hf] at hF
    intro TT hTT XX
    have hle : TT.heap.size ≤ s.heap.size + cells := XX.heapSize
    rw [hTT] at hle
    have hsz : H.size = b + σ.1 := pw_size (E := (b, D, c1, c2, c3)) (n0 := s.heap.size) (cells := cells) hH hX.2.2.2.2.2.2.2.1 hS.1 hN hle
    refine va_calll (va_runS (As := As.map (pw_tr b)) (rest := st.map (pw_tr b)) ⟨hX.1, hX.2.1, hX.2.2.1, hX.2.2.2.2.1, hX.2.2.2.2.2.1⟩ (hM out' hf) ⟨callB_of n (hX.2.2.2.2.2.1) (pw_good hB.1) rfl rfl rfl (hX.2.2.2.2.2.1 _ hB.2.1) (hX.2.2.2.2.2.1 _ hw) hB.2.2 (by rw [hX.2.2.2.1]; exact hR), hX.2.2.2.2.2.1 _ hV⟩ ⟨pw_blind, fun U hU hW => ⟨rfl, by rw [hU]; exact hH, by rw [hU]; exact hsz, pw_T.moved hW hX.2.2.2.2.2.2.1⟩⟩ rfl (by rw [List.length_map]; exact hn) (by rw [← hX.2.2.1]; exact hl.1) (by rw [List.map_append, List.map_reverse]) (lv_room (by rw [pw_cat]; exact hst)) d (by rw [hX.2.2.2.1]; exact hcs)) hS (fun q _ h => h) (fun q h => h) (fun r u t H1 locs1 ht hvm hw hB hz1 hk1 hS1 => ?_) TT hTT XX
    have hN2 : b + out'.2.1 = s.heap.size + (cells + rmy.cells) := by
      have h9 := hw.2
      have h8 : b + σ.1 = s.heap.size + cells := hN
      omega
    rw [hw.1]
    exact K out'.1 out'.2 hF hN2 H1 locs1 ls hl (by rw [← ht]; exact hB.1) hS1
theorem sp_callSV (hX : pw_Ok X cc own rm nL) {f : Option (Unit × pw_Sto)} (hM : ∀ out, f = some out → pw_CV X.1.2.1 X.2.2.1 y ccy nLy ret rmy As σ out) (hB : pw_Cal y ccy nLy ret n) (hV : Cond.static y ∈ pw_gt) (hw : Cond.methodLink own idx y ∈ pw_gt) (hR : rmy.frames + 1 ≤ rm.frames ∧ 8 + (nLy + 11) + rmy.locals ≤ rm.locals) (hn : As.length = n) (hstk : As.reverse ++ st = stk) (hst : (st.map fun v => v.category).sum ≤ 8) (hcs : cells + rmy.cells ≤ rm.cells ∧ slots + rmy.slots ≤ rm.slots) (hc1 : cells + rmy.cells = cells') (hc2 : slots + rmy.slots = slots') (d : decode cc pc = .ok (.invokestatic idx, 3)) {g : Unit × pw_Sto → Option (α × pw_Sto)} (K : ∀ σ', pw_Sp X cells' slots' (pc + 3) L (st) σ' (g ((), σ'))) : pw_Sp X cells slots pc L stk σ (f.bind g) := by
  subst hstk
  subst hc1
  subst hc2
  obtain ⟨⟨p, l, e, R, s, m, args, below, meth, c⟩, Q, ⟨b, D, c1, c2, c3⟩, out, mc, ms⟩ := X
  intro hF hN H locs ls hl hH hS
  cases hf : f with
  | none => rw [hf] at hF; cases hF
  | some out' =>
    rw [hf] at hF
    intro TT hTT XX
    have hle : TT.heap.size ≤ s.heap.size + cells := XX.heapSize
    rw [hTT] at hle
    have hsz : H.size = b + σ.1 := pw_size (E := (b, D, c1, c2, c3)) (n0 := s.heap.size) (cells := cells) hH hX.2.2.2.2.2.2.2.1 hS.1 hN hle
    refine va_callv (va_runS (As := As.map (pw_tr b)) (rest := st.map (pw_tr b)) ⟨hX.1, hX.2.1, hX.2.2.1, hX.2.2.2.2.1, hX.2.2.2.2.2.1⟩ (hM out' hf) ⟨callB_of n (hX.2.2.2.2.2.1) (pw_good hB.1) rfl rfl rfl (hX.2.2.2.2.2.1 _ hB.2.1) (hX.2.2.2.2.2.1 _ hw) hB.2.2 (by rw [hX.2.2.2.1]; exact hR), hX.2.2.2.2.2.1 _ hV⟩ ⟨pw_blind, fun U hU hW => ⟨rfl, by rw [hU]; exact hH, by rw [hU]; exact hsz, pw_T.moved hW hX.2.2.2.2.2.2.1⟩⟩ rfl (by rw [List.length_map]; exact hn) (by rw [← hX.2.2.1]; exact hl.1) (by rw [List.map_append, List.map_reverse]) (lv_room (by rw [pw_cat]; exact hst)) d (by rw [hX.2.2.2.1]; exact hcs)) hS (fun q _ h => h) (fun q h => h) (fun u t H1 locs1 ht hvm hw hB hz1 hk1 hS1 => ?_) TT hTT XX
    have hN2 : b + out'.2.1 = s.heap.size + (cells + rmy.cells) := by
      have h9 := hw
      have h8 : b + σ.1 = s.heap.size + cells := hN
      omega
    exact K out'.2 hF hN2 H1 locs1 ls hl (by rw [← ht]; exact hB.1) hS1
theorem sp_callSIN (hX : pw_Ok X cc own rm nL) {f : Option (Int32 × pw_Sto)} (hM : ∀ out, f = some out → pw_CI X.1.2.1 X.2.2.1 y ccy nLy ret rmy As σ out) (hB : pw_Cal y ccy nLy ret n) (hV : Cond.static y ∈ pw_gt) (hw : Cond.methodLinkNest own idx y host ∈ pw_nest) (hR : rmy.frames + 1 ≤ rm.frames ∧ 8 + (nLy + 11) + rmy.locals ≤ rm.locals) (hn : As.length = n) (hstk : As.reverse ++ st = stk) (hst : (st.map fun v => v.category).sum ≤ 8) (hcs : cells + rmy.cells ≤ rm.cells ∧ slots + rmy.slots ≤ rm.slots) (hc1 : cells + rmy.cells = cells') (hc2 : slots + rmy.slots = slots') (d : decode cc pc = .ok (.invokestatic idx, 3)) {g : Int32 × pw_Sto → Option (α × pw_Sto)} (K : ∀ r σ', pw_Sp X cells' slots' (pc + 3) L (.int r :: st) σ' (g (r, σ'))) : pw_Sp X cells slots pc L stk σ (f.bind g) := by
  subst hstk
  subst hc1
  subst hc2
  obtain ⟨⟨p, l, e, R, s, m, args, below, meth, c⟩, Q, ⟨b, D, c1, c2, c3⟩, out, mc, ms⟩ := X
  intro hF hN H locs ls hl hH hS
  cases hf : f with
  | none => rw [hf] at hF; cases hF
  | some out' =>
    rw [hf] at hF
    intro TT hTT XX
    have hle : TT.heap.size ≤ s.heap.size + cells := XX.heapSize
    rw [hTT] at hle
    have hsz : H.size = b + σ.1 := pw_size (E := (b, D, c1, c2, c3)) (n0 := s.heap.size) (cells := cells) hH hX.2.2.2.2.2.2.2.1 hS.1 hN hle
    refine va_calli (va_runSN (As := As.map (pw_tr b)) (rest := st.map (pw_tr b)) ⟨hX.1, hX.2.1, hX.2.2.1, hX.2.2.2.2.1, hX.2.2.2.2.2.1⟩ (hM out' hf) ⟨va_cnB n (hX.2.2.2.2.2.1) (pw_good hB.1) rfl rfl rfl (hX.2.2.2.2.2.2.1.2 _ hw) (hX.2.2.2.2.2.1 _ hB.2.1) hB.2.2 (by rw [hX.2.2.2.1]; exact hR), hX.2.2.2.2.2.1 _ hV, trivial⟩ ⟨pw_blind, fun U hU hW => ⟨rfl, by rw [hU]; exact hH, by rw [hU]; exact hsz, pw_T.moved hW hX.2.2.2.2.2.2.1⟩⟩ rfl (by rw [List.length_map]; exact hn) (by rw [← hX.2.2.1]; exact hl.1) (by rw [List.map_append, List.map_reverse]) (lv_room (by rw [pw_cat]; exact hst)) d (by rw [hX.2.2.2.1]; exact hcs)) hS (fun q _ h => h) (fun q h => h) (fun r u t H1 locs1 ht hvm hw hB hz1 hk1 hS1 => ?_) TT hTT XX
    have hN2 : b + out'.2.1 = s.heap.size + (cells + rmy.cells) := by
      have h9 := hw.2
      have h8 : b + σ.1 = s.heap.size + cells := hN
      omega
    rw [hw.1]
    exact K out'.1 out'.2 hF hN2 H1 locs1 ls hl (by rw [← ht]; exact hB.1) hS1
theorem sp_callSLN (hX : pw_Ok X cc own rm nL) {f : Option (Int64 × pw_Sto)} (hM : ∀ out, f = some out → pw_CL X.1.2.1 X.2.2.1 y ccy nLy ret rmy As σ out) (hB : pw_Cal y ccy nLy ret n) (hV : Cond.static y ∈ pw_gt) (hw : Cond.methodLinkNest own idx y host ∈ pw_nest) (hR : rmy.frames + 1 ≤ rm.frames ∧ 8 + (nLy + 11) + rmy.locals ≤ rm.locals) (hn : As.length = n) (hstk : As.reverse ++ st = stk) (hst : (st.map fun v => v.category).sum ≤ 8) (hcs : cells + rmy.cells ≤ rm.cells ∧ slots + rmy.slots ≤ rm.slots) (hc1 : cells + rmy.cells = cells') (hc2 : slots + rmy.slots = slots') (d : decode cc pc = .ok (.invokestatic idx, 3)) {g : Int64 × pw_Sto → Option (α × pw_Sto)} (K : ∀ r σ', pw_Sp X cells' slots' (pc + 3) L (.long r :: st) σ' (g (r, σ'))) : pw_Sp X cells slots pc L stk σ (f.bind g) := by
  subst hstk
  subst hc1
  subst hc2
  obtain ⟨⟨p, l, e, R, s, m, args, below, meth, c⟩, Q, ⟨b, D, c1, c2, c3⟩, out, mc, ms⟩ := X
  intro hF hN H locs ls hl hH hS
  cases hf : f with
  | none => rw [hf] at hF; cases hF
  | some out' =>
    rw [hf] at hF
    intro TT hTT XX
    have hle : TT.heap.size ≤ s.heap.size + cells := XX.heapSize
    rw [hTT] at hle
    have hsz : H.size = b + σ.1 := pw_size (E := (b, D, c1, c2, c3)) (n0 := s.heap.size) (cells := cells) hH hX.2.2.2.2.2.2.2.1 hS.1 hN hle
    refine va_calll (va_runSN (As := As.map (pw_tr b)) (rest := st.map (pw_tr b)) ⟨hX.1, hX.2.1, hX.2.2.1, hX.2.2.2.2.1, hX.2.2.2.2.2.1⟩ (hM out' hf) ⟨va_cnB n (hX.2.2.2.2.2.1) (pw_good hB.1) rfl rfl rfl (hX.2.2.2.2.2.2.1.2 _ hw) (hX.2.2.2.2.2.1 _ hB.2.1) hB.2.2 (by rw [hX.2.2.2.1]; exact hR), hX.2.2.2.2.2.1 _ hV, trivial⟩ ⟨pw_blind, fun U hU hW => ⟨rfl, by rw [hU]; exact hH, by rw [hU]; exact hsz, pw_T.moved hW hX.2.2.2.2.2.2.1⟩⟩ rfl (by rw [List.length_map]; exact hn) (by rw [← hX.2.2.1]; exact hl.1) (by rw [List.map_append, List.map_reverse]) (lv_room (by rw [pw_cat]; exact hst)) d (by rw [hX.2.2.2.1]; exact hcs)) hS (fun q _ h => h) (fun q h => h) (fun r u t H1 locs1 ht hvm hw hB hz1 hk1 hS1 => ?_) TT hTT XX
    have hN2 : b + out'.2.1 = s.heap.size + (cells + rmy.cells) := by
      have h9 := hw.2
      have h8 : b + σ.1 = s.heap.size + cells := hN
      omega
    rw [hw.1]
    exact K out'.1 out'.2 hF hN2 H1 locs1 ls hl (by rw [← ht]; exact hB.1) hS1
theorem sp_callSVN (hX : pw_Ok X cc own rm nL) {f : Option (Unit × pw_Sto)} (hM : ∀ out, f = some out → pw_CV X.1.2.1 X.2.2.1 y ccy nLy ret rmy As σ out) (hB : pw_Cal y ccy nLy ret n) (hV : Cond.static y ∈ pw_gt) (hw : Cond.methodLinkNest own idx y host ∈ pw_nest) (hR : rmy.frames + 1 ≤ rm.frames ∧ 8 + (nLy + 11) + rmy.locals ≤ rm.locals) (hn : As.length = n) (hstk : As.reverse ++ st = stk) (hst : (st.map fun v => v.category).sum ≤ 8) (hcs : cells + rmy.cells ≤ rm.cells ∧ slots + rmy.slots ≤ rm.slots) (hc1 : cells + rmy.cells = cells') (hc2 : slots + rmy.slots = slots') (d : decode cc pc = .ok (.invokestatic idx, 3)) {g : Unit × pw_Sto → Option (α × pw_Sto)} (K : ∀ σ', pw_Sp X cells' slots' (pc + 3) L (st) σ' (g ((), σ'))) : pw_Sp X cells slots pc L stk σ (f.bind g) := by
  subst hstk
  subst hc1
  subst hc2
  obtain ⟨⟨p, l, e, R, s, m, args, below, meth, c⟩, Q, ⟨b, D, c1, c2, c3⟩, out, mc, ms⟩ := X
  intro hF hN H locs ls hl hH hS
  cases hf : f with
  | none => rw [hf] at hF; cases hF
  | some out' =>
    rw [hf] at hF
    intro TT hTT XX
    have hle : TT.heap.size ≤ s.heap.size + cells := XX.heapSize
    rw [hTT] at hle
    have hsz : H.size = b + σ.1 := pw_size (E := (b, D, c1, c2, c3)) (n0 := s.heap.size) (cells := cells) hH hX.2.2.2.2.2.2.2.1 hS.1 hN hle
    refine va_callv (va_runSN (As := As.map (pw_tr b)) (rest := st.map (pw_tr b)) ⟨hX.1, hX.2.1, hX.2.2.1, hX.2.2.2.2.1, hX.2.2.2.2.2.1⟩ (hM out' hf) ⟨va_cnB n (hX.2.2.2.2.2.1) (pw_good hB.1) rfl rfl rfl (hX.2.2.2.2.2.2.1.2 _ hw) (hX.2.2.2.2.2.1 _ hB.2.1) hB.2.2 (by rw [hX.2.2.2.1]; exact hR), hX.2.2.2.2.2.1 _ hV, trivial⟩ ⟨pw_blind, fun U hU hW => ⟨rfl, by rw [hU]; exact hH, by rw [hU]; exact hsz, pw_T.moved hW hX.2.2.2.2.2.2.1⟩⟩ rfl (by rw [List.length_map]; exact hn) (by rw [← hX.2.2.1]; exact hl.1) (by rw [List.map_append, List.map_reverse]) (lv_room (by rw [pw_cat]; exact hst)) d (by rw [hX.2.2.2.1]; exact hcs)) hS (fun q _ h => h) (fun q h => h) (fun u t H1 locs1 ht hvm hw hB hz1 hk1 hS1 => ?_) TT hTT XX
    have hN2 : b + out'.2.1 = s.heap.size + (cells + rmy.cells) := by
      have h9 := hw
      have h8 : b + σ.1 = s.heap.size + cells := hN
      omega
    exact K out'.2 hF hN2 H1 locs1 ls hl (by rw [← ht]; exact hB.1) hS1
theorem sp_callIV (hX : pw_Ok X cc own rm nL) {f : Option (Unit × pw_Sto)} (hM : ∀ out, f = some out → pw_CV X.1.2.1 X.2.2.1 y ccy nLy none rmy (.ref o :: As) σ out) (hB : pw_Cal y ccy nLy none n) (hV : Cond.instanceMethod y ∈ pw_gt) (hnm : y.name = "<init>") (hw : Cond.methodLink own idx y ∈ pw_gt) (hR : rmy.frames + 1 ≤ rm.frames ∧ 8 + (nLy + 11) + rmy.locals ≤ rm.locals) (hn : As.length = n) (hstk : As.reverse ++ .ref o :: st = stk) (hst : (st.map fun v => v.category).sum ≤ 8) (hcs : cells + rmy.cells ≤ rm.cells ∧ slots + rmy.slots ≤ rm.slots) (hc1 : cells + rmy.cells = cells') (hc2 : slots + rmy.slots = slots') (d : decode cc pc = .ok (.invokespecial idx, 3)) {g : Unit × pw_Sto → Option (α × pw_Sto)} (K : ∀ σ', pw_Sp X cells' slots' (pc + 3) L (st) σ' (g ((), σ'))) : pw_Sp X cells slots pc L stk σ (f.bind g) := by
  subst hstk
  subst hc1
  subst hc2
  obtain ⟨⟨p, l, e, R, s, m, args, below, meth, c⟩, Q, ⟨b, D, c1, c2, c3⟩, out, mc, ms⟩ := X
  intro hF hN H locs ls hl hH hS
  cases hf : f with
  | none => rw [hf] at hF; cases hF
  | some out' =>
    rw [hf] at hF
    intro TT hTT XX
    have hle : TT.heap.size ≤ s.heap.size + cells := XX.heapSize
    rw [hTT] at hle
    have hsz : H.size = b + σ.1 := pw_size (E := (b, D, c1, c2, c3)) (n0 := s.heap.size) (cells := cells) hH hX.2.2.2.2.2.2.2.1 hS.1 hN hle
    refine va_callv (va_runI (As := As.map (pw_tr b)) (rest := st.map (pw_tr b)) ⟨hX.1, hX.2.1, hX.2.2.1, hX.2.2.2.2.1, hX.2.2.2.2.2.1⟩ (hM out' hf) ⟨callB_of n (hX.2.2.2.2.2.1) (pw_good hB.1) rfl rfl rfl (hX.2.2.2.2.2.1 _ hB.2.1) (hX.2.2.2.2.2.1 _ hw) hB.2.2 (by rw [hX.2.2.2.1]; exact hR), hnm, hX.2.2.2.2.2.1 _ hV⟩ ⟨pw_blind, fun U hU hW => ⟨rfl, by rw [hU]; exact hH, by rw [hU]; exact hsz, pw_T.moved hW hX.2.2.2.2.2.2.1⟩⟩ rfl (by rw [List.length_map]; exact hn) (by rw [← hX.2.2.1]; exact hl.1) (by rw [List.map_append, List.map_reverse]; rfl) (lv_room (by rw [pw_cat]; exact hst)) d (by rw [hX.2.2.2.1]; exact hcs)) hS (fun q _ h => h) (fun q h => h) (fun u t H1 locs1 ht hvm hw hB hz1 hk1 hS1 => ?_) TT hTT XX
    have hN2 : b + out'.2.1 = s.heap.size + (cells + rmy.cells) := by
      have h9 := hw
      have h8 : b + σ.1 = s.heap.size + cells := hN
      omega
    exact K out'.2 hF hN2 H1 locs1 ls hl (by rw [← ht]; exact hB.1) hS1
theorem sp_callIVN (hX : pw_Ok X cc own rm nL) {f : Option (Unit × pw_Sto)} (hM : ∀ out, f = some out → pw_CV X.1.2.1 X.2.2.1 y ccy nLy none rmy (.ref o :: As) σ out) (hB : pw_Cal y ccy nLy none n) (hV : Cond.instanceMethod y ∈ pw_gt) (hnm : y.name = "<init>") (hw : Cond.methodLinkNest own idx y host ∈ pw_nest) (hR : rmy.frames + 1 ≤ rm.frames ∧ 8 + (nLy + 11) + rmy.locals ≤ rm.locals) (hn : As.length = n) (hstk : As.reverse ++ .ref o :: st = stk) (hst : (st.map fun v => v.category).sum ≤ 8) (hcs : cells + rmy.cells ≤ rm.cells ∧ slots + rmy.slots ≤ rm.slots) (hc1 : cells + rmy.cells = cells') (hc2 : slots + rmy.slots = slots') (d : decode cc pc = .ok (.invokespecial idx, 3)) {g : Unit × pw_Sto → Option (α × pw_Sto)} (K : ∀ σ', pw_Sp X cells' slots' (pc + 3) L (st) σ' (g ((), σ'))) : pw_Sp X cells slots pc L stk σ (f.bind g) := by
  subst hstk
  subst hc1
  subst hc2
  obtain ⟨⟨p, l, e, R, s, m, args, below, meth, c⟩, Q, ⟨b, D, c1, c2, c3⟩, out, mc, ms⟩ := X
  intro hF hN H locs ls hl hH hS
  cases hf : f with
  | none => rw [hf] at hF; cases hF
  | some out' =>
    rw [hf] at hF
    intro TT hTT XX
    have hle : TT.heap.size ≤ s.heap.size + cells := XX.heapSize
    rw [hTT] at hle
    have hsz : H.size = b + σ.1 := pw_size (E := (b, D, c1, c2, c3)) (n0 := s.heap.size) (cells := cells) hH hX.2.2.2.2.2.2.2.1 hS.1 hN hle
    refine va_callv (va_runIN (As := As.map (pw_tr b)) (rest := st.map (pw_tr b)) ⟨hX.1, hX.2.1, hX.2.2.1, hX.2.2.2.2.1, hX.2.2.2.2.2.1⟩ (hM out' hf) ⟨va_cnB n (hX.2.2.2.2.2.1) (pw_good hB.1) rfl rfl rfl (hX.2.2.2.2.2.2.1.2 _ hw) (hX.2.2.2.2.2.1 _ hB.2.1) hB.2.2 (by rw [hX.2.2.2.1]; exact hR), hnm, hX.2.2.2.2.2.1 _ hV⟩ ⟨pw_blind, fun U hU hW => ⟨rfl, by rw [hU]; exact hH, by rw [hU]; exact hsz, pw_T.moved hW hX.2.2.2.2.2.2.1⟩⟩ rfl (by rw [List.length_map]; exact hn) (by rw [← hX.2.2.1]; exact hl.1) (by rw [List.map_append, List.map_reverse]; rfl) (lv_room (by rw [pw_cat]; exact hst)) d (by rw [hX.2.2.2.1]; exact hcs)) hS (fun q _ h => h) (fun q h => h) (fun u t H1 locs1 ht hvm hw hB hz1 hk1 hS1 => ?_) TT hTT XX
    have hN2 : b + out'.2.1 = s.heap.size + (cells + rmy.cells) := by
      have h9 := hw
      have h8 : b + σ.1 = s.heap.size + cells := hN
      omega
    exact K out'.2 hF hN2 H1 locs1 ls hl (by rw [← ht]; exact hB.1) hS1
end PWcall
end
section
/-! ## making cells -/
def pw_new (n : Nat) (σ : pw_Sto) (r : Nat → Nat → Option Nat) : pw_Sto := (σ.1 + n, (fun i => if i < σ.1 then σ.2.1 i else (fun _ => 0)), (fun i => if i < σ.1 then σ.2.2 i else r i))
def pw_nw (c : Nat) (σ : pw_Sto) : Option (Nat × pw_Sto) := if (pw_sh σ.1).1 = c then some (σ.1, pw_new 1 σ (fun _ _ => none)) else none
def pw_na (n : Int32) (σ : pw_Sto) : Option (Nat × pw_Sto) := if 0 ≤ n ∧ pw_sh σ.1 = (11, n.toNatClampNeg) then some (σ.1, pw_new 1 σ (fun _ _ => none)) else none
def pw_nq (n : Int32) (σ : pw_Sto) : Option (Nat × pw_Sto) := if 0 ≤ n ∧ pw_sh σ.1 = (12, n.toNatClampNeg) then some (σ.1, pw_new 1 σ (fun _ _ => none)) else none
def pw_nm (n k : Int32) (σ : pw_Sto) : Option (Nat × pw_Sto) := if (0 ≤ n ∧ 0 ≤ k ∧ k.toNatClampNeg ≤ 344) ∧ pw_sh σ.1 = (13, n.toNatClampNeg) ∧ ∀ j, j < n.toNatClampNeg → pw_sh (σ.1 + 1 + j) = (11, k.toNatClampNeg) then some (σ.1, pw_new (1 + n.toNatClampNeg) σ (fun i j => if i = σ.1 then (if j < n.toNatClampNeg then some (σ.1 + 1 + j) else none) else none)) else none
theorem pw_sh_le (i : Nat) : (pw_sh i).2 ≤ 344 := by
  have h : ∀ q ∈ pw_shT, q.2 ≤ 344 := by decide +kernel
  unfold pw_sh
  rw [List.getD_eq_getElem?_getD]
  cases hi : pw_shT[i]? with
  | none => exact Nat.zero_le _
  | some q => exact h q (List.mem_of_getElem? hi)
theorem pw_cell_new {E : pw_E} {σ : pw_Sto} {n : Nat} {r : Nat → Nat → Option Nat} {j : Nat} (h : j < σ.1) : pw_cell E (pw_new n σ r) j = pw_cell E σ j := pw_cell_ne (if_pos h) (if_pos h)
theorem pw_P_new {E : pw_E} {σ : pw_Sto} {n : Nat} {r : Nat → Nat → Option Nat} {H H1 : Heap} (hP : pw_H E σ H) (ho : ∀ q, q < H.size → H1[q]? = H[q]?) (hn : ∀ j, j < n → va_at E.2.1 pw_cl (E.1 + (σ.1 + j), pw_cell E (pw_new n σ r) (σ.1 + j)) H1) : pw_H E (pw_new n σ r) H1 := by
  intro k q hk
  unfold pw_ws at hk
  rw [List.getElem?_map] at hk
  by_cases h : k < (pw_new n σ r).1
  · rw [List.getElem?_range h] at hk
    cases hk
    by_cases h2 : k < σ.1
    · show va_at E.2.1 pw_cl (E.1 + k, pw_cell E (pw_new n σ r) k) H1
      rw [pw_cell_new h2]
      have h3 := hP k _ (pw_ws_at h2)
      exact h3.kept (ho _ h3.lt)
    · have h4 : k < σ.1 + n := h
      have h5 := hn (k - σ.1) (by omega)
      rw [show σ.1 + (k - σ.1) = k by omega] at h5
      exact h5
  · rw [List.getElem?_eq_none (by rw [List.length_range]; omega)] at hk
    cases hk
section PWnew
variable {α : Type} {X : pw_X α} {cc : ByteArray} {own : String} {rm : Room} {nL idx cells slots slots' pc : Nat} {L : List (Nat × Value)} {st : List Value} {σ : pw_Sto} {ci : Nat} {C : String} {T : u_T} {N : Nat} {Y : Nat → FieldType}
theorem sp_objInit (hX : pw_Ok X cc own rm nL) {F : Option (α × pw_Sto)} {o : Nat} (h1 : Cond.methodLink own idx objectInit ∈ pw_gt) (h2 : Cond.instanceMethod objectInit ∈ pw_gt) (h3 : Cond.code objectInit ⟨#[0xb1]⟩ 1 none ∈ pw_gt) (hfr : 1 ≤ rm.frames) (hlo : (st.map fun v => v.category).sum + 12 ≤ rm.locals) (d : decode cc pc = .ok (.invokespecial idx, 3)) (K : pw_Sp X cells slots (pc + 3) L st σ F) : pw_Sp X cells slots pc L (.ref o :: st) σ F := by
  obtain ⟨⟨p, l, e, R, s, m, args, below, meth, c⟩, Q, ⟨b, D, c1, c2, c3⟩, out, mc, ms⟩ := X
  intro hF hN H locs ls hl hH hS
  refine W.objInit hX.1 hX.2.1 hX.2.2.2.2.1 (hX.2.2.2.2.2.1 _ h1) (hX.2.2.2.2.2.1 _ h2) (hX.2.2.2.2.2.1 _ h3) rfl hl.1 rfl d (by rw [hX.2.2.2.1]; exact hfr) ?_ (K hF hN H locs ls hl hH hS)
  show 2 * 0 + ((st.map (pw_tr b)).map fun v => v.category).sum + 12 ≤ R.locals
  rw [pw_cat, show R = rm from hX.2.2.2.1]
  omega
theorem sp_new (hX : pw_Ok X cc own rm nL) (hC : pw_Cl ci C T N Y) (hd : ∀ j, j < N → defaultValue (Y j) = (match (pw_ft ci)[j]? with | some true => .int 0 | _ => .null)) (h1 : Cond.classLink own idx C ∈ pw_gt) (h2 : Cond.instantiable C N ∈ pw_gt) (h3 : Cond.initialized C ∈ pw_gt) (hc : cells + 1 ≤ rm.cells) (hs : slots + N ≤ rm.slots) (hs' : slots + N = slots') (d : decode cc pc = .ok (.new idx, 3)) {g : Nat × pw_Sto → Option (α × pw_Sto)} (K : ∀ q σ', pw_Sp X (cells + 1) slots' (pc + 3) L (.ref q :: st) σ' (g (q, σ'))) : pw_Sp X cells slots pc L st σ ((pw_nw ci σ).bind g) := by
  subst hs'
  obtain ⟨⟨p, l, e, R, s, m, args, below, meth, c⟩, Q, ⟨b, D, c1, c2, c3⟩, out, mc, ms⟩ := X
  intro hF hN H locs ls hl hH hS
  by_cases h : (pw_sh σ.1).1 = ci
  · rw [pw_nw, if_pos h] at hF
    intro TT hTT XX
    have hle : TT.heap.size ≤ s.heap.size + cells := XX.heapSize
    rw [hTT] at hle
    have hsz : H.size = b + σ.1 := pw_size (E := (b, D, c1, c2, c3)) (n0 := s.heap.size) (cells := cells) hH hX.2.2.2.2.2.2.2.1 hS.1 hN hle
    have hKn := hX.2.2.2.2.2.2.1.1.1 ci _ hC.1
    refine W.newcK (g := F0 m pc ls (st.map (pw_tr b))) hX.1 hX.2.1 hX.2.2.2.2.1 (hX.2.2.2.2.2.1 _ h1) (hX.2.2.2.2.2.1 _ h2) (hX.2.2.2.2.2.1 _ h3) rfl d (by rw [hX.2.2.2.1]; exact hc) (by rw [hX.2.2.2.1]; exact hs) hKn.2.1 rfl (fun H1 kC hkC e1 z1 o1 => ?_) TT hTT XX
    have hP1 : pw_H (b, D, c1, c2, c3) (pw_new 1 σ (fun _ _ => none)) H1 := by
      refine pw_P_new hH o1 (fun j hj => ?_)
      have hj0 : j = 0 := by omega
      subst hj0
      rw [Nat.add_zero, pw_cell_o h hC.2.1]
      refine ⟨_, hC.1, ?_⟩
      have hb := (u_born Y (ws := pw_gt) hX.2.2.2.2.2.1 hC.2.2.1 hKn hkC e1 hC.2.2.2.1)
      rw [hsz] at hb
      refine hb.to (fun j hj => ?_)
      rw [hd j hj]
      unfold vp_V
      rw [List.getD_eq_getElem?_getD]
      cases ht : (pw_ft ci)[j]? with
      | none =>
        have := List.getElem?_eq_none_iff.mp ht
        rw [hC.2.2.2.2.2] at this
        omega
      | some t =>
        rw [pw_flds_at ht]
        cases t
        · show Value.null = va_rf (Option.map _ ((pw_new 1 σ (fun _ _ => none)).2.2 σ.1 j))
          show Value.null = va_rf (Option.map _ ((if σ.1 < σ.1 then σ.2.2 σ.1 else (fun _ => none)) j))
          rw [if_neg (Nat.lt_irrefl _)]
          rfl
        · show Value.int 0 = Value.int ((if σ.1 < σ.1 then σ.2.1 σ.1 else (fun _ => 0)) j)
          rw [if_neg (Nat.lt_irrefl _)]
    have hk := K σ.1 (pw_new 1 σ (fun _ _ => none)) hF (by show b + (σ.1 + 1) = s.heap.size + (cells + 1); have h8 : b + σ.1 = s.heap.size + cells := hN; omega) H1 locs ls hl hP1 ⟨Nat.le_trans hS.1 (by omega), fun x h1 h2 => (o1 x (Nat.lt_of_lt_of_le h1 hS.1)).trans (hS.2.1 x h1 h2), hS.2.2⟩
    rw [hsz]
    exact hk
  · rw [pw_nw, if_neg h] at hF; cases hF
theorem sp_newa (hX : pw_Ok X cc own rm nL) {n : Int32} (h1 : Cond.arrayClass .int ∈ pw_gt) (hc : cells + 1 ≤ rm.cells) (hs : slots + n.toNatClampNeg ≤ rm.slots) (hs' : slots + n.toNatClampNeg = slots') (d : decode cc pc = .ok (.newarray .int, 2)) {g : Nat × pw_Sto → Option (α × pw_Sto)} (K : ∀ q σ', pw_Sp X (cells + 1) slots' (pc + 2) L (.ref q :: st) σ' (g (q, σ'))) : pw_Sp X cells slots pc L (.int n :: st) σ ((pw_na n σ).bind g) := by
  subst hs'
  obtain ⟨⟨p, l, e, R, s, m, args, below, meth, c⟩, Q, ⟨b, D, c1, c2, c3⟩, out, mc, ms⟩ := X
  intro hF hN H locs ls hl hH hS
  by_cases h : 0 ≤ n ∧ pw_sh σ.1 = (11, n.toNatClampNeg)
  · rw [pw_na, if_pos h] at hF
    intro TT hTT XX
    have hle : TT.heap.size ≤ s.heap.size + cells := XX.heapSize
    rw [hTT] at hle
    have hsz : H.size = b + σ.1 := pw_size (E := (b, D, c1, c2, c3)) (n0 := s.heap.size) (cells := cells) hH hX.2.2.2.2.2.2.2.1 hS.1 hN hle
    have hlen : n.toNatClampNeg ≤ 344 := by
      have := pw_sh_le σ.1
      rw [h.2] at this
      exact this
    have h4 : componentBytes (newarray.typeOf .int) = 4 := by rfl
    refine va_newaK (atype := .int) (g := F0 m pc ls (.int n :: st.map (pw_tr b))) hX.1 hX.2.1 (hX.2.2.2.2.2.1 _ h1) rfl d rfl (Int32.not_lt.mpr h.1) rfl (by rw [h4]; omega) (by rw [hX.2.2.2.1]; exact hc) (by rw [hX.2.2.2.1]; exact hs) hsz (fun H1 cA e1 z1 o1 hAr hNm => ?_) TT hTT XX
    have hcA : cA = c1 := by
      have h9 := (hX.2.2.2.2.2.2.1.1.2 0 (c1, .int) rfl).2
      exact Option.some.inj (hNm.symm.trans h9)
    subst hcA
    have hP1 : pw_H (b, D, cA, c2, c3) (pw_new 1 σ (fun _ _ => none)) H1 := by
      refine pw_P_new hH (by rw [hsz]; exact o1) (fun j hj => ?_)
      have hj0 : j = 0 := by omega
      subst hj0
      rw [Nat.add_zero, pw_cell_i (by rw [h.2])]
      show H1[b + σ.1]? = some (vp_cell cA _)
      rw [e1, h.2]
      show _ = some (vp_cell cA (n.toNatClampNeg, .inl (if σ.1 < σ.1 then σ.2.1 σ.1 else (fun _ => 0))))
      rw [if_neg (Nat.lt_irrefl _)]
      rfl
    exact K σ.1 (pw_new 1 σ (fun _ _ => none)) hF (by show b + (σ.1 + 1) = s.heap.size + (cells + 1); have h8 : b + σ.1 = s.heap.size + cells := hN; omega) H1 locs ls hl hP1 ⟨Nat.le_trans hS.1 (by omega), fun x h1 h2 => (o1 x (by have := hS.1; omega)).trans (hS.2.1 x h1 h2), hS.2.2⟩
  · rw [pw_na, if_neg h] at hF; cases hF
theorem sp_newq (hX : pw_Ok X cc own rm nL) {n : Int32} (h1 : Cond.classLink own idx "PadeWorkbench$State" ∈ pw_gt) (hc : cells + 1 ≤ rm.cells) (hs : slots + n.toNatClampNeg ≤ rm.slots) (hs' : slots + n.toNatClampNeg = slots') (d : decode cc pc = .ok (.anewarray idx, 3)) {g : Nat × pw_Sto → Option (α × pw_Sto)} (K : ∀ q σ', pw_Sp X (cells + 1) slots' (pc + 3) L (.ref q :: st) σ' (g (q, σ'))) : pw_Sp X cells slots pc L (.int n :: st) σ ((pw_nq n σ).bind g) := by
  subst hs'
  obtain ⟨⟨p, l, e, R, s, m, args, below, meth, c⟩, Q, ⟨b, D, c1, c2, c3⟩, out, mc, ms⟩ := X
  intro hF hN H locs ls hl hH hS
  by_cases h : 0 ≤ n ∧ pw_sh σ.1 = (12, n.toNatClampNeg)
  · rw [pw_nq, if_pos h] at hF
    intro TT hTT XX
    have hle : TT.heap.size ≤ s.heap.size + cells := XX.heapSize
    rw [hTT] at hle
    have hsz : H.size = b + σ.1 := pw_size (E := (b, D, c1, c2, c3)) (n0 := s.heap.size) (cells := cells) hH hX.2.2.2.2.2.2.2.1 hS.1 hN hle
    have hlen : n.toNatClampNeg ≤ 344 := by
      have := pw_sh_le σ.1
      rw [h.2] at this
      exact this
    have hov : va_AO "PadeWorkbench$State" s := hX.2.2.2.2.2.2.1.2 (.arrayOver (.object "PadeWorkbench$State")) (List.mem_append_right _ (List.mem_append_right _ (List.mem_map.mpr ⟨_, List.mem_of_getElem? (i := 1) rfl, rfl⟩)))
    refine W.anew (g := F0 m pc ls (.int n :: st.map (pw_tr b))) hX.1 hX.2.1 hX.2.2.2.2.1 (hX.2.2.2.2.2.1 _ h1) (va_AO.use hov) rfl d rfl (Int32.not_lt.mpr h.1) (by omega) (by rw [hX.2.2.2.1]; exact hc) (by rw [hX.2.2.2.1]; exact hs) (fun cA kA comp f1 f2 f3 f4 => ?_) TT hTT XX
    have hcA : cA = c2 := by
      obtain ⟨kA2, comp2, g1, g2, g3, g4⟩ := (hX.2.2.2.2.2.2.1.1.2 1 (c2, .object "PadeWorkbench$State") rfl).2
      exact Option.some.inj (f1.symm.trans g4)
    subst hcA
    generalize hH1 : H.push ({ cls := cA, slots := Array.replicate n.toNatClampNeg .null, vm := .none } : Cell) = H1
    have z1 : H1.size = H.size + 1 := by rw [← hH1, Array.size_push]
    have e1 : H1[H.size]? = some (arrV cA n.toNatClampNeg (fun _ => .null)) := by rw [← hH1, Array.getElem?_push_size, ← arrV_new]
    have o1 : ∀ q : Nat, q < H.size → H1[q]? = H[q]? := fun q hq => by rw [← hH1, Array.getElem?_push, if_neg (Nat.ne_of_lt hq)]
    have hP1 : pw_H (b, D, c1, cA, c3) (pw_new 1 σ (fun _ _ => none)) H1 := by
      refine pw_P_new hH o1 (fun j hj => ?_)
      have hj0 : j = 0 := by omega
      subst hj0
      rw [Nat.add_zero, pw_cell_s (by rw [h.2])]
      show H1[b + σ.1]? = some (vp_cell cA _)
      rw [← hsz, e1, h.2, vp_cell_q]
      refine congrArg some (congrArg (arrV cA n.toNatClampNeg) (funext fun j => ?_))
      show Value.null = va_rf (Option.map _ ((if σ.1 < σ.1 then σ.2.2 σ.1 else (fun _ => none)) j))
      rw [if_neg (Nat.lt_irrefl _)]
      rfl
    have hk := K σ.1 (pw_new 1 σ (fun _ _ => none)) hF (by show b + (σ.1 + 1) = s.heap.size + (cells + 1); have h8 : b + σ.1 = s.heap.size + cells := hN; omega) H1 locs ls hl hP1 ⟨Nat.le_trans hS.1 (by omega), fun x h1 h2 => (o1 x (Nat.lt_of_lt_of_le h1 hS.1)).trans (hS.2.1 x h1 h2), hS.2.2⟩
    rw [hsz]
    exact hk
  · rw [pw_nq, if_neg h] at hF; cases hF
theorem sp_aastore (hX : pw_Ok X cc own rm nL) {a v : Nat} {i : Int32} (d : decode cc pc = .ok (.aastore, 1)) {g : pw_Sto → Option (α × pw_Sto)} (K : ∀ σ', pw_Sp X cells slots (pc + 1) L st σ' (g σ')) : pw_Sp X cells slots pc L (.ref v :: .int i :: .ref a :: st) σ ((pw_sr 12 a i 7 v σ).bind g) := by
  obtain ⟨⟨p, l, e, R, s, m, args, below, meth, c⟩, Q, ⟨b, D, c1, c2, c3⟩, out, mc, ms⟩ := X
  intro hF hN H locs ls hl hH hS
  by_cases h : ((a < σ.1 ∧ (pw_sh a).1 = 12) ∧ (0 ≤ i ∧ i.toNatClampNeg < (pw_sh a).2)) ∧ (v < σ.1 ∧ (pw_sh v).1 = 7)
  · rw [pw_sr, if_pos h] at hF
    refine va_astq (D := D) (cl := pw_cl) hX.1 hX.2.1 hX.2.2.2.2.2.2.1.1 hH (pw_ws_D (b, D, c1, c2, c3) σ) hS a 1 v 7 (r := ("PadeWorkbench$State", pw_T7, 5)) (by rw [pw_ws_at h.1.1.1, pw_cell_s h.1.1.2]) rfl (by rw [pw_ws_at h.2.1, pw_cell_o h.2.2 (by decide)]) rfl (pw_vin h.1.2) d (fun H1 locs1 hP1 hD1 hS1 => ?_)
    refine K (σ.1, σ.2.1, pw_u2 σ.2.2 a i.toNatClampNeg (some v)) hF hN H1 locs1 ls hl (pw_va_P_setK (E := (b, D, c1, c2, c3)) (σ := σ) (σ' := (σ.1, σ.2.1, pw_u2 σ.2.2 a i.toNatClampNeg (some v))) rfl h.1.1.1 (fun j hj => pw_cell_ne rfl (pw_u2_ne hj)) ?_ hP1) hS1
    rw [pw_cell_s h.1.1.2]
    show Sum.inl (_, _, Sum.inr (Sum.inr (Sum.inr (Sum.inr (fun k => Option.map _ (pw_u2 σ.2.2 a i.toNatClampNeg (some v) a k)))))) = _
    refine congrArg (fun f => Sum.inl (c2, (pw_sh a).2, Sum.inr (Sum.inr (Sum.inr (Sum.inr f))))) (funext fun k => ?_)
    rw [pw_u2_at]
    unfold va_up
    by_cases hk : k = i.toNatClampNeg
    · rw [if_pos hk, if_pos hk]; rfl
    · rw [if_neg hk, if_neg hk]
  · rw [pw_sr, if_neg h] at hF; cases hF
theorem pw_outer (c : ClassId) (N h0 : Nat) : ∀ i : Nat, Jvm.Free.Multi.outerC c N h0 i = arrV c N (fun j => va_rf (if j < i then some (h0 + 1 + j) else none))
  | 0 => by
    show ({ cls := c, slots := Array.replicate N .null, vm := .none } : Cell) = _
    rw [arrV_new]
    refine congrArg (arrV c N) (funext fun j => ?_)
    simp [va_rf]
  | i + 1 => by
    show (Jvm.Free.Multi.outerC c N h0 i).setSlot i (.ref (h0 + 1 + i)) = _
    rw [pw_outer c N h0 i, arrV_store]
    refine congrArg (arrV c N) (funext fun j => ?_)
    by_cases e : j = i
    · subst e
      simp [updV, va_rf]
    · by_cases h : j < i
      · simp [updV, e, h, Nat.lt_succ_of_lt h]
      · simp [updV, e, h, show ¬ j < i + 1 by omega]
theorem sp_mna (hX : pw_Ok X cc own rm nL) {n k : Int32} {cells' : Nat} (h1 : Cond.arrayClass .int ∈ pw_gt) (h2 : Cond.classLink own idx "[[I" ∈ pw_gt) (hc : cells + (1 + n.toNatClampNeg) ≤ rm.cells) (hs : slots + (n.toNatClampNeg + n.toNatClampNeg * k.toNatClampNeg) ≤ rm.slots) (hc' : cells + 1 + n.toNatClampNeg = cells') (hs' : slots + n.toNatClampNeg + n.toNatClampNeg * k.toNatClampNeg = slots') (d : decode cc pc = .ok (.multianewarray idx 2, 4)) {g : Nat × pw_Sto → Option (α × pw_Sto)} (K : ∀ q σ', pw_Sp X cells' slots' (pc + 4) L (.ref q :: st) σ' (g (q, σ'))) : pw_Sp X cells slots pc L (.int k :: .int n :: st) σ ((pw_nm n k σ).bind g) := by
  subst hs'
  subst hc'
  obtain ⟨⟨p, l, e, R, s, m, args, below, meth, c⟩, Q, ⟨b, D, c1, c2, c3⟩, out, mc, ms⟩ := X
  intro hF hN H locs ls hl hH hS
  by_cases h : (0 ≤ n ∧ 0 ≤ k ∧ k.toNatClampNeg ≤ 344) ∧ pw_sh σ.1 = (13, n.toNatClampNeg) ∧ ∀ j, j < n.toNatClampNeg → pw_sh (σ.1 + 1 + j) = (11, k.toNatClampNeg)
  · rw [pw_nm, if_pos h] at hF
    intro TT hTT XX
    have hle : TT.heap.size ≤ s.heap.size + cells := XX.heapSize
    rw [hTT] at hle
    have hsz : H.size = b + σ.1 := pw_size (E := (b, D, c1, c2, c3)) (n0 := s.heap.size) (cells := cells) hH hX.2.2.2.2.2.2.2.1 hS.1 hN hle
    have hn : n.toNatClampNeg ≤ 344 := by
      have := pw_sh_le σ.1
      rw [h.2.1] at this
      exact this
    have hov : (Cond.arrayOver (.array .int)).before args s = true := hX.2.2.2.2.2.2.1.2 (.arrayOver (.array .int)) (List.mem_append_right _ (List.mem_append_right _ (List.mem_map.mpr ⟨_, List.mem_of_getElem? (i := 0) rfl, rfl⟩)))
    have hRs : R = rm := hX.2.2.2.1
    have hb4 : componentBytes .int = 4 := by rfl
    have hkb : k.toNatClampNeg ≤ 344 := h.1.2.2
    obtain ⟨vm₁, cA, comp, -, fA, fC, hO, -, X', step⟩ := XX.multianewarray2F hX.1 hX.2.2.2.2.1 (hX.2.2.2.2.2.1 _ h2) hov (hX.2.2.2.2.2.1 _ h1) (g := F0 m pc ls (.int k :: .int n :: st.map (pw_tr b))) rfl (by rw [hX.2.1]; exact d) rfl (Int32.not_lt.mpr h.1.1) (Int32.not_lt.mpr h.1.2.1) (by omega) (by rw [hb4]; omega) (by omega) rfl rfl (by rw [hRs]; exact hc) (by rw [hRs]; exact hs)
    have ecA : cA = c3 := by
      have h9 := (hX.2.2.2.2.2.2.1.1.2 2 (c3, .array .int) rfl).2
      exact Option.some.inj (fA.symm.trans h9)
    have ecC : comp = c1 := by
      have h9 := (hX.2.2.2.2.2.2.1.1.2 0 (c1, .int) rfl).2
      exact Option.some.inj (fC.symm.trans h9)
    subst ecA
    subst ecC
    have hTh : (TT.setVm vm₁).heap = H := hTT
    generalize hFF : Jvm.Free.Multi.fill (TT.setVm vm₁) cA comp n.toNatClampNeg k.toNatClampNeg (defaultValue .int) n.toNatClampNeg = FF at X' step
    obtain ⟨f1, f2, -, -⟩ := Jvm.Free.Multi.fill_facts (TT.setVm vm₁) cA comp n.toNatClampNeg k.toNatClampNeg (defaultValue .int) n.toNatClampNeg
    rw [hFF, hTh] at f1 f2
    have hold : ∀ x : Nat, x < H.size → FF.heap[x]? = H[x]? := fun x hx => by
      have := Jvm.Free.Multi.fill_old (TT.setVm vm₁) cA comp n.toNatClampNeg k.toNatClampNeg (defaultValue .int) (a := x) (by rw [hTh]; exact hx) n.toNatClampNeg
      rw [hFF, hTh] at this
      exact this
    have hrow : ∀ j : Nat, j < n.toNatClampNeg → FF.heap[H.size + 1 + j]? = some (vp_cell comp (k.toNatClampNeg, .inl (fun _ => 0))) := fun j hj => by
      have := Jvm.Free.Multi.fill_inner (TT.setVm vm₁) cA comp n.toNatClampNeg k.toNatClampNeg (defaultValue .int) n.toNatClampNeg j hj
      rw [hFF, hTh] at this
      rw [this]
      refine congrArg some ?_
      show ({ cls := comp, slots := Array.replicate k.toNatClampNeg (.int 0), vm := .none } : Cell) = _
      rw [arrV_new]
      rfl
    rw [pw_outer] at f2
    have hP1 : pw_H (b, D, comp, c2, cA) (pw_new (1 + n.toNatClampNeg) σ (fun i j => if i = σ.1 then (if j < n.toNatClampNeg then some (σ.1 + 1 + j) else none) else none)) FF.heap := by
      refine pw_P_new hH hold (fun j hj => ?_)
      cases j with
      | zero =>
        rw [Nat.add_zero, pw_cell_g (by rw [h.2.1])]
        show FF.heap[b + σ.1]? = some (vp_cell cA _)
        rw [← hsz, f2, h.2.1, vp_cell_q]
        refine congrArg some (congrArg (arrV cA n.toNatClampNeg) (funext fun j => ?_))
        show va_rf (if j < n.toNatClampNeg then some (H.size + 1 + j) else none) = va_rf (Option.map (fun j => b + j) ((if σ.1 < σ.1 then σ.2.2 σ.1 else (fun j => if σ.1 = σ.1 then (if j < n.toNatClampNeg then some (σ.1 + 1 + j) else none) else none)) j))
        rw [if_neg (Nat.lt_irrefl σ.1), if_pos rfl, hsz]
        by_cases hj : j < n.toNatClampNeg
        · rw [if_pos hj, if_pos hj]
          show va_rf (some (b + σ.1 + 1 + j)) = va_rf (some (b + (σ.1 + 1 + j)))
          rw [show b + σ.1 + 1 + j = b + (σ.1 + 1 + j) by omega]
        · rw [if_neg hj, if_neg hj]; rfl
      | succ j =>
        have hj2 : j < n.toNatClampNeg := by omega
        have hs9 := h.2.2 j hj2
        rw [show σ.1 + (j + 1) = σ.1 + 1 + j by omega, pw_cell_i (by rw [hs9])]
        show FF.heap[b + (σ.1 + 1 + j)]? = some (vp_cell comp _)
        rw [show b + (σ.1 + 1 + j) = H.size + 1 + j by omega, hrow j hj2, hs9]
        show _ = some (vp_cell comp (k.toNatClampNeg, .inl (if σ.1 + 1 + j < σ.1 then σ.2.1 (σ.1 + 1 + j) else (fun _ => 0))))
        rw [if_neg (by omega)]
    obtain ⟨t, a1, b1⟩ := K σ.1 _ hF (by show b + (σ.1 + (1 + n.toNatClampNeg)) = s.heap.size + (cells + 1 + n.toNatClampNeg); have h8 : b + σ.1 = s.heap.size + cells := hN; omega) FF.heap locs ls hl hP1 ⟨by rw [f1]; have := hS.1; omega, fun x h1 h2 => (hold x (Nat.lt_of_lt_of_le h1 hS.1)).trans (hS.2.1 x h1 h2), hS.2.2⟩ FF rfl X'
    refine ⟨t, step t ?_, b1⟩
    have e9 : TT.heap.size = b + σ.1 := by rw [hTT]; exact hsz
    rw [e9]
    exact a1
  · rw [pw_nm, if_neg h] at hF; cases hF
end PWnew
end
