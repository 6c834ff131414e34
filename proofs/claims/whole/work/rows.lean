section
/-- a private method of a class that the tables say can be made, by its rows of tables_1 -/
def lw_okq (q : MethodName × Nat) : Prop := (q.1.cls ≠ "java/lang/invoke/MethodHandle" ∧ q.1.cls ≠ "java/lang/invoke/VarHandle") ∧ Cond.instantiable q.1.cls q.2 ∈ tables_1 ∧ Cond.privateMethod q.1 ∈ tables_1 ∧ Cond.instanceMethod q.1 ∈ tables_1
theorem lw_p0 : lw_okq (⟨"QuoteGrid", "beginAction", "()V"⟩, 7) := ⟨⟨by decide +kernel, by decide +kernel⟩, List.mem_of_getElem? (i := 17) (by decide +kernel), List.mem_of_getElem? (i := 352) (by decide +kernel), List.mem_of_getElem? (i := 353) (by decide +kernel)⟩
theorem lw_p1 : lw_okq (⟨"QuoteGrid$History", "dropOldest", "()V"⟩, 2) := ⟨⟨by decide +kernel, by decide +kernel⟩, List.mem_of_getElem? (i := 181) (by decide +kernel), List.mem_of_getElem? (i := 360) (by decide +kernel), List.mem_of_getElem? (i := 361) (by decide +kernel)⟩
theorem lw_p2 : lw_okq (⟨"QuoteGrid$Layout", "cover", "(LQuoteGrid$Quote;I)V"⟩, 3) := ⟨⟨by decide +kernel, by decide +kernel⟩, List.mem_of_getElem? (i := 250) (by decide +kernel), List.mem_of_getElem? (i := 473) (by decide +kernel), List.mem_of_getElem? (i := 474) (by decide +kernel)⟩
theorem lw_p3 : lw_okq (⟨"QuoteGrid$Trial", "isTooNearToAnother", "(LQuoteGrid$Quote;)Z"⟩, 6) := ⟨⟨by decide +kernel, by decide +kernel⟩, List.mem_of_getElem? (i := 242) (by decide +kernel), List.mem_of_getElem? (i := 505) (by decide +kernel), List.mem_of_getElem? (i := 506) (by decide +kernel)⟩
theorem lw_p4 : lw_okq (⟨"QuoteGrid$Trial", "reasonInLayout", "(LQuoteGrid$Quote;)I"⟩, 6) := ⟨⟨by decide +kernel, by decide +kernel⟩, List.mem_of_getElem? (i := 242) (by decide +kernel), List.mem_of_getElem? (i := 517) (by decide +kernel), List.mem_of_getElem? (i := 518) (by decide +kernel)⟩
theorem lw_p5 : lw_okq (⟨"QuoteGrid$Trial", "isBadlyDistant", "(LQuoteGrid$Quote;)Z"⟩, 6) := ⟨⟨by decide +kernel, by decide +kernel⟩, List.mem_of_getElem? (i := 242) (by decide +kernel), List.mem_of_getElem? (i := 529) (by decide +kernel), List.mem_of_getElem? (i := 530) (by decide +kernel)⟩
theorem lw_p6 : lw_okq (⟨"QuoteGrid$Trial", "unrestAt", "(I)I"⟩, 6) := ⟨⟨by decide +kernel, by decide +kernel⟩, List.mem_of_getElem? (i := 242) (by decide +kernel), List.mem_of_getElem? (i := 578) (by decide +kernel), List.mem_of_getElem? (i := 579) (by decide +kernel)⟩
theorem lw_p7 : lw_okq (⟨"QuoteGrid$Reader", "nextSign", "()I"⟩, 5) := ⟨⟨by decide +kernel, by decide +kernel⟩, List.mem_of_getElem? (i := 198) (by decide +kernel), List.mem_of_getElem? (i := 630) (by decide +kernel), List.mem_of_getElem? (i := 631) (by decide +kernel)⟩
theorem lw_p8 : lw_okq (⟨"QuoteGrid$Reader", "readItem", "()V"⟩, 5) := ⟨⟨by decide +kernel, by decide +kernel⟩, List.mem_of_getElem? (i := 198) (by decide +kernel), List.mem_of_getElem? (i := 634) (by decide +kernel), List.mem_of_getElem? (i := 635) (by decide +kernel)⟩
theorem lw_p9 : lw_okq (⟨"QuoteGrid$Reader", "readArticle", "()V"⟩, 5) := ⟨⟨by decide +kernel, by decide +kernel⟩, List.mem_of_getElem? (i := 198) (by decide +kernel), List.mem_of_getElem? (i := 638) (by decide +kernel), List.mem_of_getElem? (i := 639) (by decide +kernel)⟩
theorem lw_p10 : lw_okq (⟨"QuoteGrid$Reader", "readNumber", "(II)I"⟩, 5) := ⟨⟨by decide +kernel, by decide +kernel⟩, List.mem_of_getElem? (i := 198) (by decide +kernel), List.mem_of_getElem? (i := 642) (by decide +kernel), List.mem_of_getElem? (i := 643) (by decide +kernel)⟩
theorem lw_p11 : lw_okq (⟨"QuoteGrid$Reader", "failAt", "(I)V"⟩, 5) := ⟨⟨by decide +kernel, by decide +kernel⟩, List.mem_of_getElem? (i := 198) (by decide +kernel), List.mem_of_getElem? (i := 651) (by decide +kernel), List.mem_of_getElem? (i := 652) (by decide +kernel)⟩
theorem lw_p12 : lw_okq (⟨"QuoteGrid$Reader", "readLines", "(LQuoteGrid$Article;)V"⟩, 5) := ⟨⟨by decide +kernel, by decide +kernel⟩, List.mem_of_getElem? (i := 198) (by decide +kernel), List.mem_of_getElem? (i := 657) (by decide +kernel), List.mem_of_getElem? (i := 658) (by decide +kernel)⟩
theorem lw_p13 : lw_okq (⟨"QuoteGrid$Reader", "readQuote", "()V"⟩, 5) := ⟨⟨by decide +kernel, by decide +kernel⟩, List.mem_of_getElem? (i := 198) (by decide +kernel), List.mem_of_getElem? (i := 662) (by decide +kernel), List.mem_of_getElem? (i := 663) (by decide +kernel)⟩
theorem lw_p14 : lw_okq (⟨"QuoteGrid$Reader", "expect", "(I)V"⟩, 5) := ⟨⟨by decide +kernel, by decide +kernel⟩, List.mem_of_getElem? (i := 198) (by decide +kernel), List.mem_of_getElem? (i := 666) (by decide +kernel), List.mem_of_getElem? (i := 667) (by decide +kernel)⟩
theorem lw_p15 : lw_okq (⟨"QuoteGrid", "currentLayout", "()LQuoteGrid$Layout;"⟩, 7) := ⟨⟨by decide +kernel, by decide +kernel⟩, List.mem_of_getElem? (i := 17) (by decide +kernel), List.mem_of_getElem? (i := 676) (by decide +kernel), List.mem_of_getElem? (i := 677) (by decide +kernel)⟩
def lw_privs_1 : List (MethodName × Nat) := [(⟨"QuoteGrid", "beginAction", "()V"⟩, 7), (⟨"QuoteGrid$History", "dropOldest", "()V"⟩, 2), (⟨"QuoteGrid$Layout", "cover", "(LQuoteGrid$Quote;I)V"⟩, 3), (⟨"QuoteGrid$Trial", "isTooNearToAnother", "(LQuoteGrid$Quote;)Z"⟩, 6), (⟨"QuoteGrid$Trial", "reasonInLayout", "(LQuoteGrid$Quote;)I"⟩, 6), (⟨"QuoteGrid$Trial", "isBadlyDistant", "(LQuoteGrid$Quote;)Z"⟩, 6), (⟨"QuoteGrid$Trial", "unrestAt", "(I)I"⟩, 6), (⟨"QuoteGrid$Reader", "nextSign", "()I"⟩, 5), (⟨"QuoteGrid$Reader", "readItem", "()V"⟩, 5), (⟨"QuoteGrid$Reader", "readArticle", "()V"⟩, 5), (⟨"QuoteGrid$Reader", "readNumber", "(II)I"⟩, 5), (⟨"QuoteGrid$Reader", "failAt", "(I)V"⟩, 5), (⟨"QuoteGrid$Reader", "readLines", "(LQuoteGrid$Article;)V"⟩, 5), (⟨"QuoteGrid$Reader", "readQuote", "()V"⟩, 5), (⟨"QuoteGrid$Reader", "expect", "(I)V"⟩, 5), (⟨"QuoteGrid", "currentLayout", "()LQuoteGrid$Layout;"⟩, 7)]
theorem lw_r1 : ∀ q ∈ lw_privs_1, lw_okq q := List.forall_mem_cons.mpr ⟨lw_p0, List.forall_mem_cons.mpr ⟨lw_p1, List.forall_mem_cons.mpr ⟨lw_p2, List.forall_mem_cons.mpr ⟨lw_p3, List.forall_mem_cons.mpr ⟨lw_p4, List.forall_mem_cons.mpr ⟨lw_p5, List.forall_mem_cons.mpr ⟨lw_p6, List.forall_mem_cons.mpr ⟨lw_p7, List.forall_mem_cons.mpr ⟨lw_p8, List.forall_mem_cons.mpr ⟨lw_p9, List.forall_mem_cons.mpr ⟨lw_p10, List.forall_mem_cons.mpr ⟨lw_p11, List.forall_mem_cons.mpr ⟨lw_p12, List.forall_mem_cons.mpr ⟨lw_p13, List.forall_mem_cons.mpr ⟨lw_p14, List.forall_mem_cons.mpr ⟨lw_p15, fun _ h => absurd h List.not_mem_nil⟩⟩⟩⟩⟩⟩⟩⟩⟩⟩⟩⟩⟩⟩⟩⟩
theorem lw_p16 : lw_okq (⟨"QuoteGridModel", "act", "()V"⟩, 19) := ⟨⟨by decide +kernel, by decide +kernel⟩, List.mem_of_getElem? (i := 744) (by decide +kernel), List.mem_of_getElem? (i := 815) (by decide +kernel), List.mem_of_getElem? (i := 816) (by decide +kernel)⟩
theorem lw_p17 : lw_okq (⟨"QuoteGridModel", "putArticle", "(II)V"⟩, 19) := ⟨⟨by decide +kernel, by decide +kernel⟩, List.mem_of_getElem? (i := 744) (by decide +kernel), List.mem_of_getElem? (i := 819) (by decide +kernel), List.mem_of_getElem? (i := 820) (by decide +kernel)⟩
theorem lw_p18 : lw_okq (⟨"QuoteGridModel", "isArticle", "(I)Z"⟩, 19) := ⟨⟨by decide +kernel, by decide +kernel⟩, List.mem_of_getElem? (i := 744) (by decide +kernel), List.mem_of_getElem? (i := 827) (by decide +kernel), List.mem_of_getElem? (i := 828) (by decide +kernel)⟩
theorem lw_p19 : lw_okq (⟨"QuoteGridModel", "ofQuote", "(II)I"⟩, 19) := ⟨⟨by decide +kernel, by decide +kernel⟩, List.mem_of_getElem? (i := 744) (by decide +kernel), List.mem_of_getElem? (i := 831) (by decide +kernel), List.mem_of_getElem? (i := 832) (by decide +kernel)⟩
theorem lw_p20 : lw_okq (⟨"QuoteGridModel", "takeQuote", "(I)V"⟩, 19) := ⟨⟨by decide +kernel, by decide +kernel⟩, List.mem_of_getElem? (i := 744) (by decide +kernel), List.mem_of_getElem? (i := 835) (by decide +kernel), List.mem_of_getElem? (i := 836) (by decide +kernel)⟩
theorem lw_p21 : lw_okq (⟨"QuoteGridModel", "setQuote", "(III)V"⟩, 19) := ⟨⟨by decide +kernel, by decide +kernel⟩, List.mem_of_getElem? (i := 744) (by decide +kernel), List.mem_of_getElem? (i := 839) (by decide +kernel), List.mem_of_getElem? (i := 840) (by decide +kernel)⟩
theorem lw_p22 : lw_okq (⟨"QuoteGridModel", "lastSentence", "(I)I"⟩, 19) := ⟨⟨by decide +kernel, by decide +kernel⟩, List.mem_of_getElem? (i := 744) (by decide +kernel), List.mem_of_getElem? (i := 847) (by decide +kernel), List.mem_of_getElem? (i := 848) (by decide +kernel)⟩
theorem lw_p23 : lw_okq (⟨"QuoteGridModel", "of", "(II)I"⟩, 19) := ⟨⟨by decide +kernel, by decide +kernel⟩, List.mem_of_getElem? (i := 744) (by decide +kernel), List.mem_of_getElem? (i := 851) (by decide +kernel), List.mem_of_getElem? (i := 852) (by decide +kernel)⟩
theorem lw_p24 : lw_okq (⟨"QuoteGridModel", "putSentence", "(II)I"⟩, 19) := ⟨⟨by decide +kernel, by decide +kernel⟩, List.mem_of_getElem? (i := 744) (by decide +kernel), List.mem_of_getElem? (i := 862) (by decide +kernel), List.mem_of_getElem? (i := 863) (by decide +kernel)⟩
theorem lw_p25 : lw_okq (⟨"QuoteGridModel", "isSentence", "(II)Z"⟩, 19) := ⟨⟨by decide +kernel, by decide +kernel⟩, List.mem_of_getElem? (i := 744) (by decide +kernel), List.mem_of_getElem? (i := 870) (by decide +kernel), List.mem_of_getElem? (i := 871) (by decide +kernel)⟩
theorem lw_p26 : lw_okq (⟨"QuoteGridModel", "putQuote", "(IIII)V"⟩, 19) := ⟨⟨by decide +kernel, by decide +kernel⟩, List.mem_of_getElem? (i := 744) (by decide +kernel), List.mem_of_getElem? (i := 874) (by decide +kernel), List.mem_of_getElem? (i := 875) (by decide +kernel)⟩
theorem lw_p27 : lw_okq (⟨"QuoteGridModel", "put", "(IIII)V"⟩, 19) := ⟨⟨by decide +kernel, by decide +kernel⟩, List.mem_of_getElem? (i := 744) (by decide +kernel), List.mem_of_getElem? (i := 878) (by decide +kernel), List.mem_of_getElem? (i := 879) (by decide +kernel)⟩
theorem lw_p28 : lw_okq (⟨"QuoteGridModel", "isQuote", "(I)Z"⟩, 19) := ⟨⟨by decide +kernel, by decide +kernel⟩, List.mem_of_getElem? (i := 744) (by decide +kernel), List.mem_of_getElem? (i := 886) (by decide +kernel), List.mem_of_getElem? (i := 887) (by decide +kernel)⟩
theorem lw_p29 : lw_okq (⟨"QuoteGridModel", "refusalOf", "(IIII)I"⟩, 19) := ⟨⟨by decide +kernel, by decide +kernel⟩, List.mem_of_getElem? (i := 744) (by decide +kernel), List.mem_of_getElem? (i := 897) (by decide +kernel), List.mem_of_getElem? (i := 898) (by decide +kernel)⟩
theorem lw_p30 : lw_okq (⟨"QuoteGridModel", "takeUp", "(I)V"⟩, 19) := ⟨⟨by decide +kernel, by decide +kernel⟩, List.mem_of_getElem? (i := 744) (by decide +kernel), List.mem_of_getElem? (i := 901) (by decide +kernel), List.mem_of_getElem? (i := 902) (by decide +kernel)⟩
theorem lw_p31 : lw_okq (⟨"QuoteGridModel", "noteOver", "()V"⟩, 19) := ⟨⟨by decide +kernel, by decide +kernel⟩, List.mem_of_getElem? (i := 744) (by decide +kernel), List.mem_of_getElem? (i := 905) (by decide +kernel), List.mem_of_getElem? (i := 906) (by decide +kernel)⟩
def lw_privs_2 : List (MethodName × Nat) := [(⟨"QuoteGridModel", "act", "()V"⟩, 19), (⟨"QuoteGridModel", "putArticle", "(II)V"⟩, 19), (⟨"QuoteGridModel", "isArticle", "(I)Z"⟩, 19), (⟨"QuoteGridModel", "ofQuote", "(II)I"⟩, 19), (⟨"QuoteGridModel", "takeQuote", "(I)V"⟩, 19), (⟨"QuoteGridModel", "setQuote", "(III)V"⟩, 19), (⟨"QuoteGridModel", "lastSentence", "(I)I"⟩, 19), (⟨"QuoteGridModel", "of", "(II)I"⟩, 19), (⟨"QuoteGridModel", "putSentence", "(II)I"⟩, 19), (⟨"QuoteGridModel", "isSentence", "(II)Z"⟩, 19), (⟨"QuoteGridModel", "putQuote", "(IIII)V"⟩, 19), (⟨"QuoteGridModel", "put", "(IIII)V"⟩, 19), (⟨"QuoteGridModel", "isQuote", "(I)Z"⟩, 19), (⟨"QuoteGridModel", "refusalOf", "(IIII)I"⟩, 19), (⟨"QuoteGridModel", "takeUp", "(I)V"⟩, 19), (⟨"QuoteGridModel", "noteOver", "()V"⟩, 19)]
theorem lw_r2 : ∀ q ∈ lw_privs_2, lw_okq q := List.forall_mem_cons.mpr ⟨lw_p16, List.forall_mem_cons.mpr ⟨lw_p17, List.forall_mem_cons.mpr ⟨lw_p18, List.forall_mem_cons.mpr ⟨lw_p19, List.forall_mem_cons.mpr ⟨lw_p20, List.forall_mem_cons.mpr ⟨lw_p21, List.forall_mem_cons.mpr ⟨lw_p22, List.forall_mem_cons.mpr ⟨lw_p23, List.forall_mem_cons.mpr ⟨lw_p24, List.forall_mem_cons.mpr ⟨lw_p25, List.forall_mem_cons.mpr ⟨lw_p26, List.forall_mem_cons.mpr ⟨lw_p27, List.forall_mem_cons.mpr ⟨lw_p28, List.forall_mem_cons.mpr ⟨lw_p29, List.forall_mem_cons.mpr ⟨lw_p30, List.forall_mem_cons.mpr ⟨lw_p31, fun _ h => absurd h List.not_mem_nil⟩⟩⟩⟩⟩⟩⟩⟩⟩⟩⟩⟩⟩⟩⟩⟩
theorem lw_p32 : lw_okq (⟨"QuoteGridModel", "layOut", "()V"⟩, 19) := ⟨⟨by decide +kernel, by decide +kernel⟩, List.mem_of_getElem? (i := 744) (by decide +kernel), List.mem_of_getElem? (i := 909) (by decide +kernel), List.mem_of_getElem? (i := 910) (by decide +kernel)⟩
theorem lw_p33 : lw_okq (⟨"QuoteGridModel", "isPlaced", "(I)Z"⟩, 19) := ⟨⟨by decide +kernel, by decide +kernel⟩, List.mem_of_getElem? (i := 744) (by decide +kernel), List.mem_of_getElem? (i := 913) (by decide +kernel), List.mem_of_getElem? (i := 914) (by decide +kernel)⟩
theorem lw_p34 : lw_okq (⟨"QuoteGridModel", "layQuote", "(I)V"⟩, 19) := ⟨⟨by decide +kernel, by decide +kernel⟩, List.mem_of_getElem? (i := 744) (by decide +kernel), List.mem_of_getElem? (i := 917) (by decide +kernel), List.mem_of_getElem? (i := 918) (by decide +kernel)⟩
theorem lw_p35 : lw_okq (⟨"QuoteGridModel", "layArticle", "(I)V"⟩, 19) := ⟨⟨by decide +kernel, by decide +kernel⟩, List.mem_of_getElem? (i := 744) (by decide +kernel), List.mem_of_getElem? (i := 921) (by decide +kernel), List.mem_of_getElem? (i := 922) (by decide +kernel)⟩
theorem lw_p36 : lw_okq (⟨"QuoteGridModel", "reasonOf", "(I)I"⟩, 19) := ⟨⟨by decide +kernel, by decide +kernel⟩, List.mem_of_getElem? (i := 744) (by decide +kernel), List.mem_of_getElem? (i := 925) (by decide +kernel), List.mem_of_getElem? (i := 926) (by decide +kernel)⟩
theorem lw_p37 : lw_okq (⟨"QuoteGridModel", "isNear", "(I)Z"⟩, 19) := ⟨⟨by decide +kernel, by decide +kernel⟩, List.mem_of_getElem? (i := 744) (by decide +kernel), List.mem_of_getElem? (i := 929) (by decide +kernel), List.mem_of_getElem? (i := 930) (by decide +kernel)⟩
theorem lw_p38 : lw_okq (⟨"QuoteGridModel", "between", "(II)I"⟩, 19) := ⟨⟨by decide +kernel, by decide +kernel⟩, List.mem_of_getElem? (i := 744) (by decide +kernel), List.mem_of_getElem? (i := 933) (by decide +kernel), List.mem_of_getElem? (i := 934) (by decide +kernel)⟩
theorem lw_p39 : lw_okq (⟨"QuoteGridModel", "isMoreOver", "()Z"⟩, 19) := ⟨⟨by decide +kernel, by decide +kernel⟩, List.mem_of_getElem? (i := 744) (by decide +kernel), List.mem_of_getElem? (i := 940) (by decide +kernel), List.mem_of_getElem? (i := 941) (by decide +kernel)⟩
theorem lw_p40 : lw_okq (⟨"QuoteGridModel", "hasLineOn", "(II)Z"⟩, 19) := ⟨⟨by decide +kernel, by decide +kernel⟩, List.mem_of_getElem? (i := 744) (by decide +kernel), List.mem_of_getElem? (i := 944) (by decide +kernel), List.mem_of_getElem? (i := 945) (by decide +kernel)⟩
theorem lw_p41 : lw_okq (⟨"QuoteGridModel", "isWrongFromSentence", "(I)Z"⟩, 19) := ⟨⟨by decide +kernel, by decide +kernel⟩, List.mem_of_getElem? (i := 744) (by decide +kernel), List.mem_of_getElem? (i := 948) (by decide +kernel), List.mem_of_getElem? (i := 949) (by decide +kernel)⟩
theorem lw_p42 : lw_okq (⟨"QuoteGridModel", "fromSentence", "(I)I"⟩, 19) := ⟨⟨by decide +kernel, by decide +kernel⟩, List.mem_of_getElem? (i := 744) (by decide +kernel), List.mem_of_getElem? (i := 952) (by decide +kernel), List.mem_of_getElem? (i := 953) (by decide +kernel)⟩
theorem lw_p43 : lw_okq (⟨"QuoteGridModel", "moduleOf", "(I)I"⟩, 19) := ⟨⟨by decide +kernel, by decide +kernel⟩, List.mem_of_getElem? (i := 744) (by decide +kernel), List.mem_of_getElem? (i := 956) (by decide +kernel), List.mem_of_getElem? (i := 957) (by decide +kernel)⟩
theorem lw_p44 : lw_okq (⟨"QuoteGridModel", "fromModule", "(II)I"⟩, 19) := ⟨⟨by decide +kernel, by decide +kernel⟩, List.mem_of_getElem? (i := 744) (by decide +kernel), List.mem_of_getElem? (i := 960) (by decide +kernel), List.mem_of_getElem? (i := 961) (by decide +kernel)⟩
theorem lw_p45 : lw_okq (⟨"QuoteGridModel", "isWrongForOthers", "(I)Z"⟩, 19) := ⟨⟨by decide +kernel, by decide +kernel⟩, List.mem_of_getElem? (i := 744) (by decide +kernel), List.mem_of_getElem? (i := 964) (by decide +kernel), List.mem_of_getElem? (i := 965) (by decide +kernel)⟩
theorem lw_p46 : lw_okq (⟨"QuoteGridModel", "putBack", "(I)V"⟩, 19) := ⟨⟨by decide +kernel, by decide +kernel⟩, List.mem_of_getElem? (i := 744) (by decide +kernel), List.mem_of_getElem? (i := 968) (by decide +kernel), List.mem_of_getElem? (i := 969) (by decide +kernel)⟩
theorem lw_p47 : lw_okq (⟨"QuoteGridModel", "unrest", "()I"⟩, 19) := ⟨⟨by decide +kernel, by decide +kernel⟩, List.mem_of_getElem? (i := 744) (by decide +kernel), List.mem_of_getElem? (i := 972) (by decide +kernel), List.mem_of_getElem? (i := 973) (by decide +kernel)⟩
def lw_privs_3 : List (MethodName × Nat) := [(⟨"QuoteGridModel", "layOut", "()V"⟩, 19), (⟨"QuoteGridModel", "isPlaced", "(I)Z"⟩, 19), (⟨"QuoteGridModel", "layQuote", "(I)V"⟩, 19), (⟨"QuoteGridModel", "layArticle", "(I)V"⟩, 19), (⟨"QuoteGridModel", "reasonOf", "(I)I"⟩, 19), (⟨"QuoteGridModel", "isNear", "(I)Z"⟩, 19), (⟨"QuoteGridModel", "between", "(II)I"⟩, 19), (⟨"QuoteGridModel", "isMoreOver", "()Z"⟩, 19), (⟨"QuoteGridModel", "hasLineOn", "(II)Z"⟩, 19), (⟨"QuoteGridModel", "isWrongFromSentence", "(I)Z"⟩, 19), (⟨"QuoteGridModel", "fromSentence", "(I)I"⟩, 19), (⟨"QuoteGridModel", "moduleOf", "(I)I"⟩, 19), (⟨"QuoteGridModel", "fromModule", "(II)I"⟩, 19), (⟨"QuoteGridModel", "isWrongForOthers", "(I)Z"⟩, 19), (⟨"QuoteGridModel", "putBack", "(I)V"⟩, 19), (⟨"QuoteGridModel", "unrest", "()I"⟩, 19)]
theorem lw_r3 : ∀ q ∈ lw_privs_3, lw_okq q := List.forall_mem_cons.mpr ⟨lw_p32, List.forall_mem_cons.mpr ⟨lw_p33, List.forall_mem_cons.mpr ⟨lw_p34, List.forall_mem_cons.mpr ⟨lw_p35, List.forall_mem_cons.mpr ⟨lw_p36, List.forall_mem_cons.mpr ⟨lw_p37, List.forall_mem_cons.mpr ⟨lw_p38, List.forall_mem_cons.mpr ⟨lw_p39, List.forall_mem_cons.mpr ⟨lw_p40, List.forall_mem_cons.mpr ⟨lw_p41, List.forall_mem_cons.mpr ⟨lw_p42, List.forall_mem_cons.mpr ⟨lw_p43, List.forall_mem_cons.mpr ⟨lw_p44, List.forall_mem_cons.mpr ⟨lw_p45, List.forall_mem_cons.mpr ⟨lw_p46, List.forall_mem_cons.mpr ⟨lw_p47, fun _ h => absurd h List.not_mem_nil⟩⟩⟩⟩⟩⟩⟩⟩⟩⟩⟩⟩⟩⟩⟩⟩
theorem lw_p48 : lw_okq (⟨"QuoteGridModel", "balance", "(I)I"⟩, 19) := ⟨⟨by decide +kernel, by decide +kernel⟩, List.mem_of_getElem? (i := 744) (by decide +kernel), List.mem_of_getElem? (i := 976) (by decide +kernel), List.mem_of_getElem? (i := 977) (by decide +kernel)⟩
theorem lw_p49 : lw_okq (⟨"QuoteGridModel", "best", "(I)I"⟩, 19) := ⟨⟨by decide +kernel, by decide +kernel⟩, List.mem_of_getElem? (i := 744) (by decide +kernel), List.mem_of_getElem? (i := 991) (by decide +kernel), List.mem_of_getElem? (i := 992) (by decide +kernel)⟩
theorem lw_p50 : lw_okq (⟨"QuoteGridModel", "placedMany", "()I"⟩, 19) := ⟨⟨by decide +kernel, by decide +kernel⟩, List.mem_of_getElem? (i := 744) (by decide +kernel), List.mem_of_getElem? (i := 1003) (by decide +kernel), List.mem_of_getElem? (i := 1004) (by decide +kernel)⟩
theorem lw_p51 : lw_okq (⟨"QuoteGridModel", "hold", "()V"⟩, 19) := ⟨⟨by decide +kernel, by decide +kernel⟩, List.mem_of_getElem? (i := 744) (by decide +kernel), List.mem_of_getElem? (i := 1027) (by decide +kernel), List.mem_of_getElem? (i := 1028) (by decide +kernel)⟩
theorem lw_p52 : lw_okq (⟨"QuoteGridModel", "here", "()I"⟩, 19) := ⟨⟨by decide +kernel, by decide +kernel⟩, List.mem_of_getElem? (i := 744) (by decide +kernel), List.mem_of_getElem? (i := 1031) (by decide +kernel), List.mem_of_getElem? (i := 1032) (by decide +kernel)⟩
theorem lw_p53 : lw_okq (⟨"QuoteGridModel", "readsItem", "()Z"⟩, 19) := ⟨⟨by decide +kernel, by decide +kernel⟩, List.mem_of_getElem? (i := 744) (by decide +kernel), List.mem_of_getElem? (i := 1035) (by decide +kernel), List.mem_of_getElem? (i := 1036) (by decide +kernel)⟩
theorem lw_p54 : lw_okq (⟨"QuoteGridModel", "takes", "(I)Z"⟩, 19) := ⟨⟨by decide +kernel, by decide +kernel⟩, List.mem_of_getElem? (i := 744) (by decide +kernel), List.mem_of_getElem? (i := 1039) (by decide +kernel), List.mem_of_getElem? (i := 1040) (by decide +kernel)⟩
theorem lw_p55 : lw_okq (⟨"QuoteGridModel", "readsArticle", "()Z"⟩, 19) := ⟨⟨by decide +kernel, by decide +kernel⟩, List.mem_of_getElem? (i := 744) (by decide +kernel), List.mem_of_getElem? (i := 1043) (by decide +kernel), List.mem_of_getElem? (i := 1044) (by decide +kernel)⟩
theorem lw_p56 : lw_okq (⟨"QuoteGridModel", "reads", "(II)Z"⟩, 19) := ⟨⟨by decide +kernel, by decide +kernel⟩, List.mem_of_getElem? (i := 744) (by decide +kernel), List.mem_of_getElem? (i := 1047) (by decide +kernel), List.mem_of_getElem? (i := 1048) (by decide +kernel)⟩
theorem lw_p57 : lw_okq (⟨"QuoteGridModel", "readsSentences", "(I)Z"⟩, 19) := ⟨⟨by decide +kernel, by decide +kernel⟩, List.mem_of_getElem? (i := 744) (by decide +kernel), List.mem_of_getElem? (i := 1052) (by decide +kernel), List.mem_of_getElem? (i := 1053) (by decide +kernel)⟩
theorem lw_p58 : lw_okq (⟨"QuoteGridModel", "readsQuote", "()Z"⟩, 19) := ⟨⟨by decide +kernel, by decide +kernel⟩, List.mem_of_getElem? (i := 744) (by decide +kernel), List.mem_of_getElem? (i := 1056) (by decide +kernel), List.mem_of_getElem? (i := 1057) (by decide +kernel)⟩
theorem lw_p59 : lw_okq (⟨"QuoteGridModel", "exchange", "()V"⟩, 19) := ⟨⟨by decide +kernel, by decide +kernel⟩, List.mem_of_getElem? (i := 744) (by decide +kernel), List.mem_of_getElem? (i := 1060) (by decide +kernel), List.mem_of_getElem? (i := 1061) (by decide +kernel)⟩
theorem lw_p60 : lw_okq (⟨"QuoteGridModel", "sum", "([I)I"⟩, 19) := ⟨⟨by decide +kernel, by decide +kernel⟩, List.mem_of_getElem? (i := 744) (by decide +kernel), List.mem_of_getElem? (i := 1068) (by decide +kernel), List.mem_of_getElem? (i := 1069) (by decide +kernel)⟩
theorem lw_p61 : lw_okq (⟨"QuoteGridModel", "takenMany", "(IIII)I"⟩, 19) := ⟨⟨by decide +kernel, by decide +kernel⟩, List.mem_of_getElem? (i := 744) (by decide +kernel), List.mem_of_getElem? (i := 1072) (by decide +kernel), List.mem_of_getElem? (i := 1073) (by decide +kernel)⟩
def lw_privs_4 : List (MethodName × Nat) := [(⟨"QuoteGridModel", "balance", "(I)I"⟩, 19), (⟨"QuoteGridModel", "best", "(I)I"⟩, 19), (⟨"QuoteGridModel", "placedMany", "()I"⟩, 19), (⟨"QuoteGridModel", "hold", "()V"⟩, 19), (⟨"QuoteGridModel", "here", "()I"⟩, 19), (⟨"QuoteGridModel", "readsItem", "()Z"⟩, 19), (⟨"QuoteGridModel", "takes", "(I)Z"⟩, 19), (⟨"QuoteGridModel", "readsArticle", "()Z"⟩, 19), (⟨"QuoteGridModel", "reads", "(II)Z"⟩, 19), (⟨"QuoteGridModel", "readsSentences", "(I)Z"⟩, 19), (⟨"QuoteGridModel", "readsQuote", "()Z"⟩, 19), (⟨"QuoteGridModel", "exchange", "()V"⟩, 19), (⟨"QuoteGridModel", "sum", "([I)I"⟩, 19), (⟨"QuoteGridModel", "takenMany", "(IIII)I"⟩, 19)]
theorem lw_r4 : ∀ q ∈ lw_privs_4, lw_okq q := List.forall_mem_cons.mpr ⟨lw_p48, List.forall_mem_cons.mpr ⟨lw_p49, List.forall_mem_cons.mpr ⟨lw_p50, List.forall_mem_cons.mpr ⟨lw_p51, List.forall_mem_cons.mpr ⟨lw_p52, List.forall_mem_cons.mpr ⟨lw_p53, List.forall_mem_cons.mpr ⟨lw_p54, List.forall_mem_cons.mpr ⟨lw_p55, List.forall_mem_cons.mpr ⟨lw_p56, List.forall_mem_cons.mpr ⟨lw_p57, List.forall_mem_cons.mpr ⟨lw_p58, List.forall_mem_cons.mpr ⟨lw_p59, List.forall_mem_cons.mpr ⟨lw_p60, List.forall_mem_cons.mpr ⟨lw_p61, fun _ h => absurd h List.not_mem_nil⟩⟩⟩⟩⟩⟩⟩⟩⟩⟩⟩⟩⟩⟩
def lw_privs : List (MethodName × Nat) := lw_privs_1 ++ (lw_privs_2 ++ (lw_privs_3 ++ (lw_privs_4)))
def lw_tbl : List Cond := k2_sels lw_privs ++ tables_1
theorem lw_privs_ok : ∀ q ∈ lw_privs, lw_okq q := by
  show ∀ q ∈ lw_privs_1 ++ (lw_privs_2 ++ (lw_privs_3 ++ (lw_privs_4))), lw_okq q
  exact List.forall_mem_append.mpr ⟨lw_r1, List.forall_mem_append.mpr ⟨lw_r2, List.forall_mem_append.mpr ⟨lw_r3, lw_r4⟩⟩⟩
end
section
def RX0 : String := "QuoteGrid$Article"
def TX0 : u_T := fun k => match k with
  | 0 => ("QuoteGrid$Article", "lines", "[I", true)
  | 1 => ("QuoteGrid$Article", "start", "I", false)
  | 2 => ("QuoteGrid$Article", "length", "I", false)
  | _ => ("QuoteGrid$Article", "sentenceCount", "I", false)
def tyX0 : Nat → FieldType := fun k => match k with
  | 0 => .array .int
  | 1 => .int
  | 2 => .int
  | _ => .int
abbrev wsX00 : List Cond := u_ws RX0 TX0 4
theorem nmX0 : ∀ a, a < 4 → ∀ b, b < 4 → a ≠ b → (TX0 a).2.1 ≠ (TX0 b).2.1 := by decide +kernel
theorem tyX0_ok : ∀ k, k < 4 → parseFieldDescriptor (TX0 k).2.2.1 = some (tyX0 k) := by decide +kernel
abbrev cX0_init : ByteArray := prog_2_method_1_code
def yX0_init : MethodName := ⟨RX0, "<init>", "()V"⟩
abbrev cX0_copyFrom : ByteArray := prog_2_method_2_code
def yX0_copyFrom : MethodName := ⟨RX0, "copyFrom", "(LQuoteGrid$Article;)V"⟩
abbrev cX0_newSentence : ByteArray := prog_2_method_3_code
def yX0_newSentence : MethodName := ⟨RX0, "newSentence", "(I)I"⟩
abbrev cX0_leastLength : ByteArray := prog_2_method_4_code
def yX0_leastLength : MethodName := ⟨RX0, "leastLength", "()I"⟩
def RX1 : String := "QuoteGrid$Content"
def TX1 : u_T := fun k => match k with
  | 0 => ("QuoteGrid$Content", "articles", "[LQuoteGrid$Article;", true)
  | 1 => ("QuoteGrid$Content", "quotes", "[LQuoteGrid$Quote;", true)
  | 2 => ("QuoteGrid$Content", "rules", "[I", true)
  | 3 => ("QuoteGrid$Content", "articleCount", "I", false)
  | _ => ("QuoteGrid$Content", "quoteCount", "I", false)
def tyX1 : Nat → FieldType := fun k => match k with
  | 0 => .array (.object "QuoteGrid$Article")
  | 1 => .array (.object "QuoteGrid$Quote")
  | 2 => .array .int
  | 3 => .int
  | _ => .int
abbrev wsX10 : List Cond := u_ws RX1 TX1 5
theorem nmX1 : ∀ a, a < 5 → ∀ b, b < 5 → a ≠ b → (TX1 a).2.1 ≠ (TX1 b).2.1 := by decide +kernel
theorem tyX1_ok : ∀ k, k < 5 → parseFieldDescriptor (TX1 k).2.2.1 = some (tyX1 k) := by decide +kernel
abbrev cX1_init : ByteArray := prog_3_method_1_code
def yX1_init : MethodName := ⟨RX1, "<init>", "()V"⟩
abbrev cX1_copyFrom : ByteArray := prog_3_method_2_code
def yX1_copyFrom : MethodName := ⟨RX1, "copyFrom", "(LQuoteGrid$Content;)V"⟩
abbrev cX1_hasArticle : ByteArray := prog_3_method_3_code
def yX1_hasArticle : MethodName := ⟨RX1, "hasArticle", "(I)Z"⟩
abbrev cX1_hasLine : ByteArray := prog_3_method_4_code
def yX1_hasLine : MethodName := ⟨RX1, "hasLine", "(II)Z"⟩
abbrev cX1_hasSentence : ByteArray := prog_3_method_5_code
def yX1_hasSentence : MethodName := ⟨RX1, "hasSentence", "(II)Z"⟩
abbrev cX1_hasQuote : ByteArray := prog_3_method_6_code
def yX1_hasQuote : MethodName := ⟨RX1, "hasQuote", "(I)Z"⟩
abbrev cX1_newArticle : ByteArray := prog_3_method_7_code
def yX1_newArticle : MethodName := ⟨RX1, "newArticle", "(II)I"⟩
abbrev cX1_newQuote : ByteArray := prog_3_method_8_code
def yX1_newQuote : MethodName := ⟨RX1, "newQuote", "(IIII)I"⟩
abbrev cX1_dropArticle : ByteArray := prog_3_method_9_code
def yX1_dropArticle : MethodName := ⟨RX1, "dropArticle", "(I)V"⟩
abbrev cX1_dropQuote : ByteArray := prog_3_method_10_code
def yX1_dropQuote : MethodName := ⟨RX1, "dropQuote", "(I)V"⟩
abbrev cX1_placedQuotes : ByteArray := prog_3_method_11_code
def yX1_placedQuotes : MethodName := ⟨RX1, "placedQuotes", "()I"⟩
abbrev cX1_balanceOf : ByteArray := prog_3_method_12_code
def yX1_balanceOf : MethodName := ⟨RX1, "balanceOf", "(I)I"⟩
abbrev cX1_unrest : ByteArray := prog_3_method_13_code
def yX1_unrest : MethodName := ⟨RX1, "unrest", "()I"⟩
def RX2 : String := "QuoteGrid$Flow"
def TX2 : u_T := fun k => match k with
  | 0 => ("QuoteGrid$Flow", "modules", "[I", true)
  | 1 => ("QuoteGrid$Flow", "linesOnPage", "[I", true)
  | 2 => ("QuoteGrid$Flow", "laid", "I", false)
  | 3 => ("QuoteGrid$Flow", "overset", "I", false)
  | _ => ("QuoteGrid$Flow", "jumps", "I", false)
def tyX2 : Nat → FieldType := fun k => match k with
  | 0 => .array .int
  | 1 => .array .int
  | 2 => .int
  | 3 => .int
  | _ => .int
abbrev wsX20 : List Cond := u_ws RX2 TX2 5
theorem nmX2 : ∀ a, a < 5 → ∀ b, b < 5 → a ≠ b → (TX2 a).2.1 ≠ (TX2 b).2.1 := by decide +kernel
theorem tyX2_ok : ∀ k, k < 5 → parseFieldDescriptor (TX2 k).2.2.1 = some (tyX2 k) := by decide +kernel
abbrev cX2_init : ByteArray := prog_4_method_1_code
def yX2_init : MethodName := ⟨RX2, "<init>", "()V"⟩
abbrev cX2_pour : ByteArray := prog_4_method_2_code
def yX2_pour : MethodName := ⟨RX2, "pour", "(LQuoteGrid$Article;I[I)V"⟩
abbrev cX2_moduleOf : ByteArray := prog_4_method_3_code
def yX2_moduleOf : MethodName := ⟨RX2, "moduleOf", "(I)I"⟩
abbrev cX2_hasLineOn : ByteArray := prog_4_method_4_code
def yX2_hasLineOn : MethodName := ⟨RX2, "hasLineOn", "(I)Z"⟩
def RX3 : String := "QuoteGrid$History"
def TX3 : u_T := fun k => match k with
  | 0 => ("QuoteGrid$History", "states", "[LQuoteGrid$State;", true)
  | _ => ("QuoteGrid$History", "size", "I", false)
def tyX3 : Nat → FieldType := fun k => match k with
  | 0 => .array (.object "QuoteGrid$State")
  | _ => .int
abbrev wsX30 : List Cond := u_ws RX3 TX3 2
theorem nmX3 : ∀ a, a < 2 → ∀ b, b < 2 → a ≠ b → (TX3 a).2.1 ≠ (TX3 b).2.1 := by decide +kernel
theorem tyX3_ok : ∀ k, k < 2 → parseFieldDescriptor (TX3 k).2.2.1 = some (tyX3 k) := by decide +kernel
abbrev cX3_init : ByteArray := prog_5_method_1_code
def yX3_init : MethodName := ⟨RX3, "<init>", "()V"⟩
abbrev cX3_keep : ByteArray := prog_5_method_2_code
def yX3_keep : MethodName := ⟨RX3, "keep", "(LQuoteGrid$State;)V"⟩
abbrev cX3_dropOldest : ByteArray := prog_5_method_3_code
def yX3_dropOldest : MethodName := ⟨RX3, "dropOldest", "()V"⟩
abbrev cX3_giveBackTo : ByteArray := prog_5_method_4_code
def yX3_giveBackTo : MethodName := ⟨RX3, "giveBackTo", "(LQuoteGrid$State;)V"⟩
def RX4 : String := "QuoteGrid$Layout"
def TX4 : u_T := fun k => match k with
  | 0 => ("QuoteGrid$Layout", "takers", "[I", true)
  | 1 => ("QuoteGrid$Layout", "flows", "[LQuoteGrid$Flow;", true)
  | _ => ("QuoteGrid$Layout", "articleCount", "I", false)
def tyX4 : Nat → FieldType := fun k => match k with
  | 0 => .array .int
  | 1 => .array (.object "QuoteGrid$Flow")
  | _ => .int
abbrev wsX40 : List Cond := u_ws RX4 TX4 3
theorem nmX4 : ∀ a, a < 3 → ∀ b, b < 3 → a ≠ b → (TX4 a).2.1 ≠ (TX4 b).2.1 := by decide +kernel
theorem tyX4_ok : ∀ k, k < 3 → parseFieldDescriptor (TX4 k).2.2.1 = some (tyX4 k) := by decide +kernel
abbrev cX4_init : ByteArray := prog_6_method_1_code
def yX4_init : MethodName := ⟨RX4, "<init>", "()V"⟩
abbrev cX4_arrange : ByteArray := prog_6_method_2_code
def yX4_arrange : MethodName := ⟨RX4, "arrange", "(LQuoteGrid$Content;)V"⟩
abbrev cX4_cover : ByteArray := prog_6_method_3_code
def yX4_cover : MethodName := ⟨RX4, "cover", "(LQuoteGrid$Quote;I)V"⟩
abbrev cX4_takenBetween : ByteArray := prog_6_method_4_code
def yX4_takenBetween : MethodName := ⟨RX4, "takenBetween", "(III)I"⟩
abbrev cX4_oversetInAll : ByteArray := prog_6_method_5_code
def yX4_oversetInAll : MethodName := ⟨RX4, "oversetInAll", "()I"⟩
abbrev cX4_jumpsInAll : ByteArray := prog_6_method_6_code
def yX4_jumpsInAll : MethodName := ⟨RX4, "jumpsInAll", "()I"⟩
abbrev cX4_isMoreOverset : ByteArray := prog_6_method_7_code
def yX4_isMoreOverset : MethodName := ⟨RX4, "isMoreOverset", "(LQuoteGrid$Layout;)Z"⟩
abbrev cX4_distanceFromSentence : ByteArray := prog_6_method_8_code
def yX4_distanceFromSentence : MethodName := ⟨RX4, "distanceFromSentence", "(LQuoteGrid$Content;LQuoteGrid$Quote;)I"⟩
def RX5 : String := "QuoteGrid$Quote"
def TX5 : u_T := fun k => match k with
  | 0 => ("QuoteGrid$Quote", "article", "I", false)
  | 1 => ("QuoteGrid$Quote", "sentence", "I", false)
  | 2 => ("QuoteGrid$Quote", "width", "I", false)
  | 3 => ("QuoteGrid$Quote", "height", "I", false)
  | 4 => ("QuoteGrid$Quote", "placed", "Z", false)
  | 5 => ("QuoteGrid$Quote", "page", "I", false)
  | 6 => ("QuoteGrid$Quote", "column", "I", false)
  | _ => ("QuoteGrid$Quote", "row", "I", false)
def tyX5 : Nat → FieldType := fun k => match k with
  | 0 => .int
  | 1 => .int
  | 2 => .int
  | 3 => .int
  | 4 => .boolean
  | 5 => .int
  | 6 => .int
  | _ => .int
abbrev wsX50 : List Cond := u_ws RX5 TX5 8
theorem nmX5 : ∀ a, a < 8 → ∀ b, b < 8 → a ≠ b → (TX5 a).2.1 ≠ (TX5 b).2.1 := by decide +kernel
theorem tyX5_ok : ∀ k, k < 8 → parseFieldDescriptor (TX5 k).2.2.1 = some (tyX5 k) := by decide +kernel
abbrev cX5_init : ByteArray := prog_7_method_1_code
def yX5_init : MethodName := ⟨RX5, "<init>", "()V"⟩
abbrev cX5_copyFrom : ByteArray := prog_7_method_2_code
def yX5_copyFrom : MethodName := ⟨RX5, "copyFrom", "(LQuoteGrid$Quote;)V"⟩
abbrev cX5_moveTo : ByteArray := prog_7_method_3_code
def yX5_moveTo : MethodName := ⟨RX5, "moveTo", "(I)V"⟩
abbrev cX5_leaning : ByteArray := prog_7_method_4_code
def yX5_leaning : MethodName := ⟨RX5, "leaning", "()I"⟩
abbrev cX5_distanceFromModule : ByteArray := prog_7_method_5_code
def yX5_distanceFromModule : MethodName := ⟨RX5, "distanceFromModule", "(I)I"⟩
abbrev cX5_distanceFromQuote : ByteArray := prog_7_method_6_code
def yX5_distanceFromQuote : MethodName := ⟨RX5, "distanceFromQuote", "(LQuoteGrid$Quote;)I"⟩
def RX6 : String := "QuoteGrid$Reader"
def TX6 : u_T := fun k => match k with
  | 0 => ("QuoteGrid$Reader", "text", "LQuoteGrid$Text;", true)
  | 1 => ("QuoteGrid$Reader", "draft", "LQuoteGrid$Content;", true)
  | 2 => ("QuoteGrid$Reader", "items", "I", false)
  | 3 => ("QuoteGrid$Reader", "errorPosition", "I", false)
  | _ => ("QuoteGrid$Reader", "position", "I", false)
def tyX6 : Nat → FieldType := fun k => match k with
  | 0 => .object "QuoteGrid$Text"
  | 1 => .object "QuoteGrid$Content"
  | 2 => .int
  | 3 => .int
  | _ => .int
abbrev wsX60 : List Cond := u_ws RX6 TX6 5
theorem nmX6 : ∀ a, a < 5 → ∀ b, b < 5 → a ≠ b → (TX6 a).2.1 ≠ (TX6 b).2.1 := by decide +kernel
theorem tyX6_ok : ∀ k, k < 5 → parseFieldDescriptor (TX6 k).2.2.1 = some (tyX6 k) := by decide +kernel
abbrev cX6_init : ByteArray := prog_8_method_1_code
def yX6_init : MethodName := ⟨RX6, "<init>", "()V"⟩
abbrev cX6_hasFailed : ByteArray := prog_8_method_2_code
def yX6_hasFailed : MethodName := ⟨RX6, "hasFailed", "()Z"⟩
abbrev cX6_read : ByteArray := prog_8_method_3_code
def yX6_read : MethodName := ⟨RX6, "read", "(LQuoteGrid$Content;)V"⟩
abbrev cX6_readItem : ByteArray := prog_8_method_4_code
def yX6_readItem : MethodName := ⟨RX6, "readItem", "()V"⟩
abbrev cX6_readArticle : ByteArray := prog_8_method_5_code
def yX6_readArticle : MethodName := ⟨RX6, "readArticle", "()V"⟩
abbrev cX6_readLines : ByteArray := prog_8_method_6_code
def yX6_readLines : MethodName := ⟨RX6, "readLines", "(LQuoteGrid$Article;)V"⟩
abbrev cX6_readQuote : ByteArray := prog_8_method_7_code
def yX6_readQuote : MethodName := ⟨RX6, "readQuote", "()V"⟩
abbrev cX6_nextSign : ByteArray := prog_8_method_8_code
def yX6_nextSign : MethodName := ⟨RX6, "nextSign", "()I"⟩
abbrev cX6_expect : ByteArray := prog_8_method_9_code
def yX6_expect : MethodName := ⟨RX6, "expect", "(I)V"⟩
abbrev cX6_readNumber : ByteArray := prog_8_method_10_code
def yX6_readNumber : MethodName := ⟨RX6, "readNumber", "(II)I"⟩
abbrev cX6_isDigit : ByteArray := prog_8_method_11_code
def yX6_isDigit : MethodName := ⟨RX6, "isDigit", "(I)Z"⟩
abbrev cX6_failAt : ByteArray := prog_8_method_12_code
def yX6_failAt : MethodName := ⟨RX6, "failAt", "(I)V"⟩
def RX7 : String := "QuoteGrid$State"
def TX7 : u_T := fun k => match k with
  | 0 => ("QuoteGrid$State", "content", "LQuoteGrid$Content;", true)
  | 1 => ("QuoteGrid$State", "snapshots", "[LQuoteGrid$Content;", true)
  | _ => ("QuoteGrid$State", "snapshotTaken", "[Z", true)
def tyX7 : Nat → FieldType := fun k => match k with
  | 0 => .object "QuoteGrid$Content"
  | 1 => .array (.object "QuoteGrid$Content")
  | _ => .array .boolean
abbrev wsX70 : List Cond := u_ws RX7 TX7 3
theorem nmX7 : ∀ a, a < 3 → ∀ b, b < 3 → a ≠ b → (TX7 a).2.1 ≠ (TX7 b).2.1 := by decide +kernel
theorem tyX7_ok : ∀ k, k < 3 → parseFieldDescriptor (TX7 k).2.2.1 = some (tyX7 k) := by decide +kernel
abbrev cX7_init : ByteArray := prog_9_method_1_code
def yX7_init : MethodName := ⟨RX7, "<init>", "()V"⟩
abbrev cX7_copyFrom : ByteArray := prog_9_method_2_code
def yX7_copyFrom : MethodName := ⟨RX7, "copyFrom", "(LQuoteGrid$State;)V"⟩
abbrev cX7_snapshotCount : ByteArray := prog_9_method_3_code
def yX7_snapshotCount : MethodName := ⟨RX7, "snapshotCount", "()I"⟩
def RX8 : String := "QuoteGrid$Text"
def TX8 : u_T := fun k => match k with
  | 0 => ("QuoteGrid$Text", "signs", "[I", true)
  | _ => ("QuoteGrid$Text", "length", "I", false)
def tyX8 : Nat → FieldType := fun k => match k with
  | 0 => .array .int
  | _ => .int
abbrev wsX80 : List Cond := u_ws RX8 TX8 2
theorem nmX8 : ∀ a, a < 2 → ∀ b, b < 2 → a ≠ b → (TX8 a).2.1 ≠ (TX8 b).2.1 := by decide +kernel
theorem tyX8_ok : ∀ k, k < 2 → parseFieldDescriptor (TX8 k).2.2.1 = some (tyX8 k) := by decide +kernel
abbrev cX8_init : ByteArray := prog_10_method_1_code
def yX8_init : MethodName := ⟨RX8, "<init>", "()V"⟩
def RX9 : String := "QuoteGrid$Trial"
def TX9 : u_T := fun k => match k with
  | 0 => ("QuoteGrid$Trial", "plan", "LQuoteGrid$Content;", true)
  | 1 => ("QuoteGrid$Trial", "before", "LQuoteGrid$Layout;", true)
  | 2 => ("QuoteGrid$Trial", "after", "LQuoteGrid$Layout;", true)
  | 3 => ("QuoteGrid$Trial", "quote", "I", false)
  | 4 => ("QuoteGrid$Trial", "bestModule", "I", false)
  | _ => ("QuoteGrid$Trial", "bestUnrest", "I", false)
def tyX9 : Nat → FieldType := fun k => match k with
  | 0 => .object "QuoteGrid$Content"
  | 1 => .object "QuoteGrid$Layout"
  | 2 => .object "QuoteGrid$Layout"
  | 3 => .int
  | 4 => .int
  | _ => .int
abbrev wsX90 : List Cond := u_ws RX9 TX9 6
theorem nmX9 : ∀ a, a < 6 → ∀ b, b < 6 → a ≠ b → (TX9 a).2.1 ≠ (TX9 b).2.1 := by decide +kernel
theorem tyX9_ok : ∀ k, k < 6 → parseFieldDescriptor (TX9 k).2.2.1 = some (tyX9 k) := by decide +kernel
abbrev cX9_init : ByteArray := prog_11_method_1_code
def yX9_init : MethodName := ⟨RX9, "<init>", "()V"⟩
abbrev cX9_prepare : ByteArray := prog_11_method_2_code
def yX9_prepare : MethodName := ⟨RX9, "prepare", "(LQuoteGrid$Content;I)V"⟩
abbrev cX9_reasonAt : ByteArray := prog_11_method_3_code
def yX9_reasonAt : MethodName := ⟨RX9, "reasonAt", "(I)I"⟩
abbrev cX9_isTooNearToAnother : ByteArray := prog_11_method_4_code
def yX9_isTooNearToAnother : MethodName := ⟨RX9, "isTooNearToAnother", "(LQuoteGrid$Quote;)Z"⟩
abbrev cX9_reasonInLayout : ByteArray := prog_11_method_5_code
def yX9_reasonInLayout : MethodName := ⟨RX9, "reasonInLayout", "(LQuoteGrid$Quote;)I"⟩
abbrev cX9_isBadlyDistant : ByteArray := prog_11_method_6_code
def yX9_isBadlyDistant : MethodName := ⟨RX9, "isBadlyDistant", "(LQuoteGrid$Quote;)Z"⟩
abbrev cX9_seekBest : ByteArray := prog_11_method_7_code
def yX9_seekBest : MethodName := ⟨RX9, "seekBest", "(LQuoteGrid$Content;I)V"⟩
abbrev cX9_unrestAt : ByteArray := prog_11_method_8_code
def yX9_unrestAt : MethodName := ⟨RX9, "unrestAt", "(I)I"⟩
abbrev cX9_greatestLength : ByteArray := prog_11_method_9_code
def yX9_greatestLength : MethodName := ⟨RX9, "greatestLength", "(LQuoteGrid$Content;I)I"⟩
def RX10 : String := "QuoteGrid"
def TX10 : u_T := fun k => match k with
  | 0 => ("QuoteGrid", "state", "LQuoteGrid$State;", true)
  | 1 => ("QuoteGrid", "history", "LQuoteGrid$History;", true)
  | 2 => ("QuoteGrid", "reader", "LQuoteGrid$Reader;", true)
  | 3 => ("QuoteGrid", "text", "LQuoteGrid$Text;", true)
  | 4 => ("QuoteGrid", "trial", "LQuoteGrid$Trial;", true)
  | 5 => ("QuoteGrid", "layout", "LQuoteGrid$Layout;", true)
  | _ => ("QuoteGrid", "layoutIsOld", "Z", false)
def tyX10 : Nat → FieldType := fun k => match k with
  | 0 => .object "QuoteGrid$State"
  | 1 => .object "QuoteGrid$History"
  | 2 => .object "QuoteGrid$Reader"
  | 3 => .object "QuoteGrid$Text"
  | 4 => .object "QuoteGrid$Trial"
  | 5 => .object "QuoteGrid$Layout"
  | _ => .boolean
abbrev wsX100 : List Cond := u_ws RX10 TX10 7
theorem nmX10 : ∀ a, a < 7 → ∀ b, b < 7 → a ≠ b → (TX10 a).2.1 ≠ (TX10 b).2.1 := by decide +kernel
theorem tyX10_ok : ∀ k, k < 7 → parseFieldDescriptor (TX10 k).2.2.1 = some (tyX10 k) := by decide +kernel
abbrev cX10_init : ByteArray := prog_1_method_1_code
def yX10_init : MethodName := ⟨RX10, "<init>", "()V"⟩
abbrev cX10_addArticle : ByteArray := prog_1_method_2_code
def yX10_addArticle : MethodName := ⟨RX10, "addArticle", "(II)I"⟩
abbrev cX10_removeArticle : ByteArray := prog_1_method_3_code
def yX10_removeArticle : MethodName := ⟨RX10, "removeArticle", "(I)I"⟩
abbrev cX10_setArticle : ByteArray := prog_1_method_4_code
def yX10_setArticle : MethodName := ⟨RX10, "setArticle", "(III)I"⟩
abbrev cX10_addSentence : ByteArray := prog_1_method_5_code
def yX10_addSentence : MethodName := ⟨RX10, "addSentence", "(II)I"⟩
abbrev cX10_addQuote : ByteArray := prog_1_method_6_code
def yX10_addQuote : MethodName := ⟨RX10, "addQuote", "(IIII)I"⟩
abbrev cX10_removeQuote : ByteArray := prog_1_method_7_code
def yX10_removeQuote : MethodName := ⟨RX10, "removeQuote", "(I)I"⟩
abbrev cX10_place : ByteArray := prog_1_method_8_code
def yX10_place : MethodName := ⟨RX10, "place", "(IIII)I"⟩
abbrev cX10_lift : ByteArray := prog_1_method_9_code
def yX10_lift : MethodName := ⟨RX10, "lift", "(I)I"⟩
abbrev cX10_floatAll : ByteArray := prog_1_method_10_code
def yX10_floatAll : MethodName := ⟨RX10, "floatAll", "()I"⟩
abbrev cX10_setRule : ByteArray := prog_1_method_11_code
def yX10_setRule : MethodName := ⟨RX10, "setRule", "(II)I"⟩
abbrev cX10_take : ByteArray := prog_1_method_12_code
def yX10_take : MethodName := ⟨RX10, "take", "(I)I"⟩
abbrev cX10_restore : ByteArray := prog_1_method_13_code
def yX10_restore : MethodName := ⟨RX10, "restore", "(I)I"⟩
abbrev cX10_undo : ByteArray := prog_1_method_14_code
def yX10_undo : MethodName := ⟨RX10, "undo", "()I"⟩
abbrev cX10_append : ByteArray := prog_1_method_15_code
def yX10_append : MethodName := ⟨RX10, "append", "(I)I"⟩
abbrev cX10_clearText : ByteArray := prog_1_method_16_code
def yX10_clearText : MethodName := ⟨RX10, "clearText", "()I"⟩
abbrev cX10_load : ByteArray := prog_1_method_17_code
def yX10_load : MethodName := ⟨RX10, "load", "()I"⟩
abbrev cX10_count : ByteArray := prog_1_method_18_code
def yX10_count : MethodName := ⟨RX10, "count", "(I)I"⟩
abbrev cX10_article : ByteArray := prog_1_method_19_code
def yX10_article : MethodName := ⟨RX10, "article", "(II)I"⟩
abbrev cX10_lineAt : ByteArray := prog_1_method_20_code
def yX10_lineAt : MethodName := ⟨RX10, "lineAt", "(II)I"⟩
abbrev cX10_sentence : ByteArray := prog_1_method_21_code
def yX10_sentence : MethodName := ⟨RX10, "sentence", "(III)I"⟩
abbrev cX10_quote : ByteArray := prog_1_method_22_code
def yX10_quote : MethodName := ⟨RX10, "quote", "(II)I"⟩
abbrev cX10_module : ByteArray := prog_1_method_23_code
def yX10_module : MethodName := ⟨RX10, "module", "(I)I"⟩
abbrev cX10_page : ByteArray := prog_1_method_24_code
def yX10_page : MethodName := ⟨RX10, "page", "(II)I"⟩
abbrev cX10_refusal : ByteArray := prog_1_method_25_code
def yX10_refusal : MethodName := ⟨RX10, "refusal", "(IIII)I"⟩
abbrev cX10_bestPlace : ByteArray := prog_1_method_26_code
def yX10_bestPlace : MethodName := ⟨RX10, "bestPlace", "(II)I"⟩
abbrev cX10_troubled : ByteArray := prog_1_method_27_code
def yX10_troubled : MethodName := ⟨RX10, "troubled", "()I"⟩
abbrev cX10_roomFor : ByteArray := prog_1_method_28_code
def yX10_roomFor : MethodName := ⟨RX10, "roomFor", "(I)I"⟩
abbrev cX10_beginAction : ByteArray := prog_1_method_29_code
def yX10_beginAction : MethodName := ⟨RX10, "beginAction", "()V"⟩
abbrev cX10_currentLayout : ByteArray := prog_1_method_30_code
def yX10_currentLayout : MethodName := ⟨RX10, "currentLayout", "()LQuoteGrid$Layout;"⟩
abbrev cX10_isWithin : ByteArray := prog_1_method_31_code
def yX10_isWithin : MethodName := ⟨RX10, "isWithin", "(III)Z"⟩
abbrev cX10_isModule : ByteArray := prog_1_method_32_code
def yX10_isModule : MethodName := ⟨RX10, "isModule", "(I)Z"⟩
abbrev cX10_isPlace : ByteArray := prog_1_method_33_code
def yX10_isPlace : MethodName := ⟨RX10, "isPlace", "(III)Z"⟩
abbrev cX10_moduleAt : ByteArray := prog_1_method_34_code
def yX10_moduleAt : MethodName := ⟨RX10, "moduleAt", "(III)I"⟩
abbrev cX10_pageOf : ByteArray := prog_1_method_35_code
def yX10_pageOf : MethodName := ⟨RX10, "pageOf", "(I)I"⟩
abbrev cX10_columnOf : ByteArray := prog_1_method_36_code
def yX10_columnOf : MethodName := ⟨RX10, "columnOf", "(I)I"⟩
abbrev cX10_rowOf : ByteArray := prog_1_method_37_code
def yX10_rowOf : MethodName := ⟨RX10, "rowOf", "(I)I"⟩
abbrev cX10_differenceOfRuns : ByteArray := prog_1_method_38_code
def yX10_differenceOfRuns : MethodName := ⟨RX10, "differenceOfRuns", "(IIII)I"⟩
def RX11 : String := "QuoteGridModel"
def TX11 : u_T := fun k => match k with
  | 0 => ("QuoteGridModel", "thrown", "I", false)
  | 1 => ("QuoteGridModel", "s", "[I", true)
  | 2 => ("QuoteGridModel", "aside", "[I", true)
  | 3 => ("QuoteGridModel", "saved", "[I", true)
  | 4 => ("QuoteGridModel", "savedMany", "I", false)
  | 5 => ("QuoteGridModel", "text", "[I", true)
  | 6 => ("QuoteGridModel", "length", "I", false)
  | 7 => ("QuoteGridModel", "taken", "[I", true)
  | 8 => ("QuoteGridModel", "lines", "[I", true)
  | 9 => ("QuoteGridModel", "over", "[I", true)
  | 10 => ("QuoteGridModel", "jumps", "[I", true)
  | 11 => ("QuoteGridModel", "overThen", "[I", true)
  | 12 => ("QuoteGridModel", "wasPlaced", "I", false)
  | 13 => ("QuoteGridModel", "wasOn", "I", false)
  | 14 => ("QuoteGridModel", "wasColumn", "I", false)
  | 15 => ("QuoteGridModel", "wasRow", "I", false)
  | 16 => ("QuoteGridModel", "bestUnrest", "I", false)
  | 17 => ("QuoteGridModel", "next", "I", false)
  | _ => ("QuoteGridModel", "number", "I", false)
def tyX11 : Nat → FieldType := fun k => match k with
  | 0 => .int
  | 1 => .array .int
  | 2 => .array .int
  | 3 => .array .int
  | 4 => .int
  | 5 => .array .int
  | 6 => .int
  | 7 => .array .int
  | 8 => .array .int
  | 9 => .array .int
  | 10 => .array .int
  | 11 => .array .int
  | 12 => .int
  | 13 => .int
  | 14 => .int
  | 15 => .int
  | 16 => .int
  | 17 => .int
  | _ => .int
abbrev wsX110 : List Cond := u_ws RX11 TX11 19
theorem nmX11 : ∀ a, a < 19 → ∀ b, b < 19 → a ≠ b → (TX11 a).2.1 ≠ (TX11 b).2.1 := by decide +kernel
theorem tyX11_ok : ∀ k, k < 19 → parseFieldDescriptor (TX11 k).2.2.1 = some (tyX11 k) := by decide +kernel
abbrev cX11_init : ByteArray := prog_13_method_1_code
def yX11_init : MethodName := ⟨RX11, "<init>", "()V"⟩
abbrev cX11_in : ByteArray := prog_13_method_3_code
def yX11_in : MethodName := ⟨RX11, "in", "(III)Z"⟩
abbrev cX11_more : ByteArray := prog_13_method_4_code
def yX11_more : MethodName := ⟨RX11, "more", "(II)I"⟩
abbrev cX11_apart : ByteArray := prog_13_method_5_code
def yX11_apart : MethodName := ⟨RX11, "apart", "(II)I"⟩
abbrev cX11_act : ByteArray := prog_13_method_6_code
def yX11_act : MethodName := ⟨RX11, "act", "()V"⟩
abbrev cX11_hold : ByteArray := prog_13_method_7_code
def yX11_hold : MethodName := ⟨RX11, "hold", "()V"⟩
abbrev cX11_exchange : ByteArray := prog_13_method_8_code
def yX11_exchange : MethodName := ⟨RX11, "exchange", "()V"⟩
abbrev cX11_isArticle : ByteArray := prog_13_method_9_code
def yX11_isArticle : MethodName := ⟨RX11, "isArticle", "(I)Z"⟩
abbrev cX11_isQuote : ByteArray := prog_13_method_10_code
def yX11_isQuote : MethodName := ⟨RX11, "isQuote", "(I)Z"⟩
abbrev cX11_of : ByteArray := prog_13_method_11_code
def yX11_of : MethodName := ⟨RX11, "of", "(II)I"⟩
abbrev cX11_ofQuote : ByteArray := prog_13_method_12_code
def yX11_ofQuote : MethodName := ⟨RX11, "ofQuote", "(II)I"⟩
abbrev cX11_setQuote : ByteArray := prog_13_method_13_code
def yX11_setQuote : MethodName := ⟨RX11, "setQuote", "(III)V"⟩
abbrev cX11_isSentence : ByteArray := prog_13_method_14_code
def yX11_isSentence : MethodName := ⟨RX11, "isSentence", "(II)Z"⟩
abbrev cX11_isPlaced : ByteArray := prog_13_method_15_code
def yX11_isPlaced : MethodName := ⟨RX11, "isPlaced", "(I)Z"⟩
abbrev cX11_layQuote : ByteArray := prog_13_method_16_code
def yX11_layQuote : MethodName := ⟨RX11, "layQuote", "(I)V"⟩
abbrev cX11_layArticle : ByteArray := prog_13_method_17_code
def yX11_layArticle : MethodName := ⟨RX11, "layArticle", "(I)V"⟩
abbrev cX11_layOut : ByteArray := prog_13_method_18_code
def yX11_layOut : MethodName := ⟨RX11, "layOut", "()V"⟩
abbrev cX11_noteOver : ByteArray := prog_13_method_19_code
def yX11_noteOver : MethodName := ⟨RX11, "noteOver", "()V"⟩
abbrev cX11_isMoreOver : ByteArray := prog_13_method_20_code
def yX11_isMoreOver : MethodName := ⟨RX11, "isMoreOver", "()Z"⟩
abbrev cX11_gap : ByteArray := prog_13_method_21_code
def yX11_gap : MethodName := ⟨RX11, "gap", "(IIII)I"⟩
abbrev cX11_fromModule : ByteArray := prog_13_method_22_code
def yX11_fromModule : MethodName := ⟨RX11, "fromModule", "(II)I"⟩
abbrev cX11_between : ByteArray := prog_13_method_23_code
def yX11_between : MethodName := ⟨RX11, "between", "(II)I"⟩
abbrev cX11_moduleOf : ByteArray := prog_13_method_24_code
def yX11_moduleOf : MethodName := ⟨RX11, "moduleOf", "(I)I"⟩
abbrev cX11_fromSentence : ByteArray := prog_13_method_25_code
def yX11_fromSentence : MethodName := ⟨RX11, "fromSentence", "(I)I"⟩
abbrev cX11_isWrongFromSentence : ByteArray := prog_13_method_26_code
def yX11_isWrongFromSentence : MethodName := ⟨RX11, "isWrongFromSentence", "(I)Z"⟩
abbrev cX11_balance : ByteArray := prog_13_method_27_code
def yX11_balance : MethodName := ⟨RX11, "balance", "(I)I"⟩
abbrev cX11_unrest : ByteArray := prog_13_method_28_code
def yX11_unrest : MethodName := ⟨RX11, "unrest", "()I"⟩
abbrev cX11_put : ByteArray := prog_13_method_29_code
def yX11_put : MethodName := ⟨RX11, "put", "(IIII)V"⟩
abbrev cX11_hasLineOn : ByteArray := prog_13_method_30_code
def yX11_hasLineOn : MethodName := ⟨RX11, "hasLineOn", "(II)Z"⟩
abbrev cX11_isNear : ByteArray := prog_13_method_31_code
def yX11_isNear : MethodName := ⟨RX11, "isNear", "(I)Z"⟩
abbrev cX11_isWrongForOthers : ByteArray := prog_13_method_32_code
def yX11_isWrongForOthers : MethodName := ⟨RX11, "isWrongForOthers", "(I)Z"⟩
abbrev cX11_reasonOf : ByteArray := prog_13_method_33_code
def yX11_reasonOf : MethodName := ⟨RX11, "reasonOf", "(I)I"⟩
abbrev cX11_takeUp : ByteArray := prog_13_method_34_code
def yX11_takeUp : MethodName := ⟨RX11, "takeUp", "(I)V"⟩
abbrev cX11_putBack : ByteArray := prog_13_method_35_code
def yX11_putBack : MethodName := ⟨RX11, "putBack", "(I)V"⟩
abbrev cX11_refusalOf : ByteArray := prog_13_method_36_code
def yX11_refusalOf : MethodName := ⟨RX11, "refusalOf", "(IIII)I"⟩
abbrev cX11_best : ByteArray := prog_13_method_37_code
def yX11_best : MethodName := ⟨RX11, "best", "(I)I"⟩
abbrev cX11_putArticle : ByteArray := prog_13_method_38_code
def yX11_putArticle : MethodName := ⟨RX11, "putArticle", "(II)V"⟩
abbrev cX11_addArticle : ByteArray := prog_13_method_39_code
def yX11_addArticle : MethodName := ⟨RX11, "addArticle", "(II)I"⟩
abbrev cX11_takeQuote : ByteArray := prog_13_method_40_code
def yX11_takeQuote : MethodName := ⟨RX11, "takeQuote", "(I)V"⟩
abbrev cX11_removeArticle : ByteArray := prog_13_method_41_code
def yX11_removeArticle : MethodName := ⟨RX11, "removeArticle", "(I)I"⟩
abbrev cX11_lastSentence : ByteArray := prog_13_method_42_code
def yX11_lastSentence : MethodName := ⟨RX11, "lastSentence", "(I)I"⟩
abbrev cX11_setArticle : ByteArray := prog_13_method_43_code
def yX11_setArticle : MethodName := ⟨RX11, "setArticle", "(III)I"⟩
abbrev cX11_putSentence : ByteArray := prog_13_method_44_code
def yX11_putSentence : MethodName := ⟨RX11, "putSentence", "(II)I"⟩
abbrev cX11_addSentence : ByteArray := prog_13_method_45_code
def yX11_addSentence : MethodName := ⟨RX11, "addSentence", "(II)I"⟩
abbrev cX11_putQuote : ByteArray := prog_13_method_46_code
def yX11_putQuote : MethodName := ⟨RX11, "putQuote", "(IIII)V"⟩
abbrev cX11_addQuote : ByteArray := prog_13_method_47_code
def yX11_addQuote : MethodName := ⟨RX11, "addQuote", "(IIII)I"⟩
abbrev cX11_removeQuote : ByteArray := prog_13_method_48_code
def yX11_removeQuote : MethodName := ⟨RX11, "removeQuote", "(I)I"⟩
abbrev cX11_isPlace : ByteArray := prog_13_method_49_code
def yX11_isPlace : MethodName := ⟨RX11, "isPlace", "(III)Z"⟩
abbrev cX11_place : ByteArray := prog_13_method_50_code
def yX11_place : MethodName := ⟨RX11, "place", "(IIII)I"⟩
abbrev cX11_lift : ByteArray := prog_13_method_51_code
def yX11_lift : MethodName := ⟨RX11, "lift", "(I)I"⟩
abbrev cX11_floatAll : ByteArray := prog_13_method_52_code
def yX11_floatAll : MethodName := ⟨RX11, "floatAll", "()I"⟩
abbrev cX11_setRule : ByteArray := prog_13_method_53_code
def yX11_setRule : MethodName := ⟨RX11, "setRule", "(II)I"⟩
abbrev cX11_placedMany : ByteArray := prog_13_method_54_code
def yX11_placedMany : MethodName := ⟨RX11, "placedMany", "()I"⟩
abbrev cX11_take : ByteArray := prog_13_method_55_code
def yX11_take : MethodName := ⟨RX11, "take", "(I)I"⟩
abbrev cX11_restore : ByteArray := prog_13_method_56_code
def yX11_restore : MethodName := ⟨RX11, "restore", "(I)I"⟩
abbrev cX11_undo : ByteArray := prog_13_method_57_code
def yX11_undo : MethodName := ⟨RX11, "undo", "()I"⟩
abbrev cX11_append : ByteArray := prog_13_method_58_code
def yX11_append : MethodName := ⟨RX11, "append", "(I)I"⟩
abbrev cX11_clearText : ByteArray := prog_13_method_59_code
def yX11_clearText : MethodName := ⟨RX11, "clearText", "()I"⟩
abbrev cX11_here : ByteArray := prog_13_method_60_code
def yX11_here : MethodName := ⟨RX11, "here", "()I"⟩
abbrev cX11_reads : ByteArray := prog_13_method_61_code
def yX11_reads : MethodName := ⟨RX11, "reads", "(II)Z"⟩
abbrev cX11_takes : ByteArray := prog_13_method_62_code
def yX11_takes : MethodName := ⟨RX11, "takes", "(I)Z"⟩
abbrev cX11_readsSentences : ByteArray := prog_13_method_63_code
def yX11_readsSentences : MethodName := ⟨RX11, "readsSentences", "(I)Z"⟩
abbrev cX11_readsArticle : ByteArray := prog_13_method_64_code
def yX11_readsArticle : MethodName := ⟨RX11, "readsArticle", "()Z"⟩
abbrev cX11_readsQuote : ByteArray := prog_13_method_65_code
def yX11_readsQuote : MethodName := ⟨RX11, "readsQuote", "()Z"⟩
abbrev cX11_readsItem : ByteArray := prog_13_method_66_code
def yX11_readsItem : MethodName := ⟨RX11, "readsItem", "()Z"⟩
abbrev cX11_load : ByteArray := prog_13_method_67_code
def yX11_load : MethodName := ⟨RX11, "load", "()I"⟩
abbrev cX11_sum : ByteArray := prog_13_method_68_code
def yX11_sum : MethodName := ⟨RX11, "sum", "([I)I"⟩
abbrev cX11_takenMany : ByteArray := prog_13_method_69_code
def yX11_takenMany : MethodName := ⟨RX11, "takenMany", "(IIII)I"⟩
abbrev cX11_count : ByteArray := prog_13_method_70_code
def yX11_count : MethodName := ⟨RX11, "count", "(I)I"⟩
abbrev cX11_article : ByteArray := prog_13_method_71_code
def yX11_article : MethodName := ⟨RX11, "article", "(II)I"⟩
abbrev cX11_lineAt : ByteArray := prog_13_method_72_code
def yX11_lineAt : MethodName := ⟨RX11, "lineAt", "(II)I"⟩
abbrev cX11_sentence : ByteArray := prog_13_method_73_code
def yX11_sentence : MethodName := ⟨RX11, "sentence", "(III)I"⟩
abbrev cX11_quote : ByteArray := prog_13_method_74_code
def yX11_quote : MethodName := ⟨RX11, "quote", "(II)I"⟩
abbrev cX11_module : ByteArray := prog_13_method_75_code
def yX11_module : MethodName := ⟨RX11, "module", "(I)I"⟩
abbrev cX11_page : ByteArray := prog_13_method_76_code
def yX11_page : MethodName := ⟨RX11, "page", "(II)I"⟩
abbrev cX11_refusal : ByteArray := prog_13_method_77_code
def yX11_refusal : MethodName := ⟨RX11, "refusal", "(IIII)I"⟩
abbrev cX11_bestPlace : ByteArray := prog_13_method_78_code
def yX11_bestPlace : MethodName := ⟨RX11, "bestPlace", "(II)I"⟩
abbrev cX11_troubled : ByteArray := prog_13_method_79_code
def yX11_troubled : MethodName := ⟨RX11, "troubled", "()I"⟩
abbrev cX11_roomFor : ByteArray := prog_13_method_80_code
def yX11_roomFor : MethodName := ⟨RX11, "roomFor", "(I)I"⟩
def RJ9 : String := "java/lang/Math"
abbrev cJ9_abs_0f7a4 : ByteArray := prog_14_method_59_code
def yJ9_abs_0f7a4 : MethodName := ⟨RJ9, "abs", "(I)I"⟩
abbrev cJ9_max_7cf53 : ByteArray := prog_14_method_65_code
def yJ9_max_7cf53 : MethodName := ⟨RJ9, "max", "(II)I"⟩
abbrev cJ9_min_7cf53 : ByteArray := prog_14_method_69_code
def yJ9_min_7cf53 : MethodName := ⟨RJ9, "min", "(II)I"⟩
def RJ10 : String := "java/lang/System"
def RJ7 : String := "java/util/Arrays"
abbrev cJ7_fill_53178 : ByteArray := prog_16_method_103_code
def yJ7_fill_53178 : MethodName := ⟨RJ7, "fill", "([II)V"⟩
def RL : String := "QuoteGridLaw"
abbrev cL_law : ByteArray := code
def yL_law : MethodName := ⟨RL, "law", "([I)Z"⟩
abbrev vwCl : List vw_C := [(RX0, TX0, 4), (RX1, TX1, 5), (RX2, TX2, 5), (RX3, TX3, 2), (RX4, TX4, 3), (RX5, TX5, 8), (RX6, TX6, 5), (RX7, TX7, 3), (RX8, TX8, 2), (RX9, TX9, 6), (RX10, TX10, 7), (RX11, TX11, 19)]
end
section
/-! THE SMALL MACHINE. After the two constructors no object is ever made, and no reference field changes but the order of the history's states. So the world is a fixed family of cells (t, j): t a tag (0..11 the classes of vwCl, 12.. arrays by their part), j a number among those of the tag; what changes are whole numbers, m.1 t j k (field or place k of the cell), and m.2 (which state stands at which place of the history's row). An instruction is an operator on conditions (mo_..), a method's code a list of (pc, operator); mv_run walks it; mv_Snd says that an operator is sound for the machine at a pc. -/
abbrev mv_V : Type := Int ⊕ (Nat × Nat)
abbrev mv_L : Type := List (Option mv_V)
abbrev mv_M : Type := (Nat → Nat → Nat → Int) × (Nat → Nat)
abbrev mv_K : Type := Nat → mv_L → List mv_V → mv_M → Prop
abbrev mv_R : Type := Option mv_V → mv_M → Prop
abbrev mv_O : Type := mv_K → mv_R → mv_L → List mv_V → mv_M → Prop
-- the family of cells
def mv_cnt (t : Nat) : Nat := ([120, 20, 18, 1, 3, 160, 1, 6, 1, 1, 1, 1, 20, 20, 20, 120, 6, 6, 1, 1, 3, 3, 18, 18, 1, 1, 1, 1, 1, 1, 1, 1, 1] : List Nat).getD t 0
def mv_len (t : Nat) : Nat := ([0, 0, 0, 0, 0, 0, 0, 0, 0, 0, 0, 0, 6, 8, 3, 8, 2, 2, 5, 140, 360, 6, 200, 3, 407, 407, 2035, 140, 360, 1200, 6, 6, 6] : List Nat).getD t 0
/-- an array of references? -/
def mv_rt (t : Nat) : Bool := Nat.beq t 12 || Nat.beq t 13 || Nat.beq t 16 || Nat.beq t 18 || Nat.beq t 21
/-- which array class: 0 int[], 1 boolean[], 2 Article[], 3 Quote[], 4 Content[], 5 State[], 6 Flow[] -/
def mv_ac (t : Nat) : Nat := ([0, 0, 0, 0, 0, 0, 0, 0, 0, 0, 0, 0, 2, 3, 0, 0, 4, 1, 5, 0, 0, 6] : List Nat).getD t 0
def mv_at (i : Nat) : FieldType := ([.int, .boolean, .object RX0, .object RX5, .object RX1, .object RX7, .object RX2] : List FieldType).getD i .int
/-- the fields of a class: none a number, some (t, a, b) a reference to the cell (t, a * j + b) -/
def mv_fd (C : Nat) : List (Option (Nat × Nat × Nat)) :=
  ([ [some (15, 1, 0), none, none, none],
     [some (12, 1, 0), some (13, 1, 0), some (14, 1, 0), none, none],
     [some (22, 1, 0), some (23, 1, 0), none, none, none],
     [some (18, 0, 0), none],
     [some (20, 1, 0), some (21, 1, 0), none],
     [none, none, none, none, none, none, none, none],
     [some (8, 0, 0), some (1, 0, 19), none, none, none],
     [some (1, 3, 0), some (16, 1, 0), some (17, 1, 0)],
     [some (19, 0, 0), none],
     [some (1, 0, 18), some (4, 0, 0), some (4, 0, 1), none, none, none],
     [some (7, 0, 0), some (3, 0, 0), some (6, 0, 0), some (8, 0, 0), some (9, 0, 0), some (4, 0, 2), none],
     [none, some (24, 0, 0), some (25, 0, 0), some (26, 0, 0), none, some (27, 0, 0), none, some (28, 0, 0), some (29, 0, 0), some (30, 0, 0), some (31, 0, 0), some (32, 0, 0), none, none, none, none, none, none, none] ] : List (List (Option (Nat × Nat × Nat)))).getD C []
/-- the cells that an array of references holds: their tag, their number -/
def mv_et (t : Nat) : Nat := cond (Nat.beq t 12) 0 (cond (Nat.beq t 13) 5 (cond (Nat.beq t 16) 1 (cond (Nat.beq t 18) 7 2)))
def mv_ei (M : mv_M) (t j i : Nat) : Nat := cond (Nat.beq t 12) (6 * j + i) (cond (Nat.beq t 13) (8 * j + i) (cond (Nat.beq t 16) (3 * j + 1 + i) (cond (Nat.beq t 18) (M.2 i) (6 * j + i))))
def mv_IX : List (Nat × Nat) := (List.range 33).flatMap (fun t => (List.range (mv_cnt t)).map (fun j => (t, j)))
theorem mv_IX_mem {t j : Nat} (ht : t < 33) (hj : j < mv_cnt t) : (t, j) ∈ mv_IX :=
  List.mem_flatMap.mpr ⟨t, List.mem_range.mpr ht, List.mem_map.mpr ⟨j, List.mem_range.mpr hj, rfl⟩⟩
theorem mv_mem_IX {x : Nat × Nat} (h : x ∈ mv_IX) : x.1 < 33 ∧ x.2 < mv_cnt x.1 := by
  obtain ⟨t, ht, h⟩ := List.mem_flatMap.mp h
  obtain ⟨j, hj, rfl⟩ := List.mem_map.mp h
  exact ⟨List.mem_range.mp ht, List.mem_range.mp hj⟩
-- what the machine's cells hold
def mv_tr (ad : Nat → Nat → Nat) (v : mv_V) : Value := match v with
  | .inl x => .int (Int32.ofInt x)
  | .inr (t, j) => .ref (ad t j)
def mv_fv (ad : Nat → Nat → Nat) (M : mv_M) (t j k : Nat) (o : Option (Nat × Nat × Nat)) : Value := match o with
  | none => .int (Int32.ofInt (M.1 t j k))
  | some (t2, a, b) => .ref (ad t2 (a * j + b))
def mv_fs (ad : Nat → Nat → Nat) (M : mv_M) (t j : Nat) : List Value := (mv_fd t).mapIdx (fun k o => mv_fv ad M t j k o)
def mv_cell (ad : Nat → Nat → Nat) (cA : Nat → ClassId) (M : mv_M) (t j : Nat) : va_E :=
  if t < 12 then .inr (t, mv_fs ad M t j)
  else if mv_rt t = true then .inl (cA (mv_ac t), mv_len t, .inr (.inr (.inr (.inr (fun i => some (ad (mv_et t) (mv_ei M t j i)))))))
  else .inl (cA (mv_ac t), mv_len t, .inl (fun i => Int32.ofInt (M.1 t j i)))
def mv_ws (ad : Nat → Nat → Nat) (cA : Nat → ClassId) (M : mv_M) : va_W := mv_IX.map (fun x => (ad x.1 x.2, mv_cell ad cA M x.1 x.2))
def mv_tys (cA : Nat → ClassId) : List (ClassId × FieldType) := (List.range 7).map (fun i => (cA i, mv_at i))
theorem mv_tys_at (cA : Nat → ClassId) {i : Nat} (h : i < 7) : (mv_tys cA)[i]? = some (cA i, mv_at i) := by
  simp [mv_tys, h]
/-- whose cells these are -/
def mv_A (ad : Nat → Nat → Nat) : Nat → Prop := fun q => ∃ t j, (t, j) ∈ mv_IX ∧ q = ad t j
def mv_up (f : Nat → Nat → Nat → Int) (t j k : Nat) (v : Int) : Nat → Nat → Nat → Int := fun a b c => if a = t ∧ b = j ∧ c = k then v else f a b c
def mv_us (f : Nat → Nat) (i v : Nat) : Nat → Nat := fun k => if k = i then v else f k
theorem mv_ws_get {A : Nat → Prop} {ad : Nat → Nat → Nat} {cA : Nat → ClassId} {M : mv_M} {t j : Nat} (hD : va_D A (mv_ws ad cA M)) (h : (t, j) ∈ mv_IX) :
    ∃ q, (mv_ws ad cA M)[q]? = some (ad t j, mv_cell ad cA M t j) ∧ ∀ M' : mv_M, (∀ t' j', (t', j') ∈ mv_IX → ¬ (t' = t ∧ j' = j) → mv_cell ad cA M' t' j' = mv_cell ad cA M t' j') → (mv_ws ad cA M).set q (ad t j, mv_cell ad cA M' t j) = mv_ws ad cA M' := by
  obtain ⟨q, hq⟩ := List.getElem?_of_mem h
  have h0 : (mv_ws ad cA M)[q]? = some (ad t j, mv_cell ad cA M t j) := by simp only [mv_ws, List.getElem?_map, hq]; rfl
  refine ⟨q, h0, fun M' hM => ?_⟩
  have hl := (List.getElem?_eq_some_iff.mp h0).1
  apply List.ext_getElem?
  intro i
  by_cases hi : i = q
  · subst hi
    rw [List.getElem?_set_self hl]
    simp only [mv_ws, List.getElem?_map, hq]; rfl
  · rw [List.getElem?_set_ne (Ne.symm hi)]
    simp only [mv_ws, List.getElem?_map]
    cases hx : mv_IX[i]? with
    | none => rfl
    | some x =>
      obtain ⟨t', j'⟩ := x
      have hne : ¬ (t' = t ∧ j' = j) := by
        rintro ⟨rfl, rfl⟩
        exact hi (hD.1 i q (ad t' j', mv_cell ad cA M t' j') (ad t' j', mv_cell ad cA M t' j') (by simp only [mv_ws, List.getElem?_map, hx]; rfl) h0 rfl)
      simp only [Option.map_some]
      rw [hM t' j' (List.mem_of_getElem? hx) hne]
theorem mv_fs_at {ad : Nat → Nat → Nat} {M : mv_M} {C j k : Nat} {o : Option (Nat × Nat × Nat)} (h : (mv_fd C)[k]? = some o) : (mv_fs ad M C j)[k]? = some (mv_fv ad M C j k o) := by
  simp only [mv_fs, List.getElem?_mapIdx, h]; rfl
theorem mv_fs_len {ad : Nat → Nat → Nat} {M : mv_M} {C j : Nat} : (mv_fs ad M C j).length = (mv_fd C).length := by
  simp [mv_fs]
theorem mv_cell_obj {ad : Nat → Nat → Nat} {cA : Nat → ClassId} {M : mv_M} {C j : Nat} (h : C < 12) : mv_cell ad cA M C j = .inr (C, mv_fs ad M C j) := if_pos h
theorem mv_cell_int {ad : Nat → Nat → Nat} {cA : Nat → ClassId} {M : mv_M} {t j : Nat} (h : ¬ t < 12) (hr : mv_rt t = false) : mv_cell ad cA M t j = .inl (cA (mv_ac t), mv_len t, .inl (fun i => Int32.ofInt (M.1 t j i))) := by
  unfold mv_cell; rw [if_neg h, if_neg (by rw [hr]; decide)]
theorem mv_cell_ref {ad : Nat → Nat → Nat} {cA : Nat → ClassId} {M : mv_M} {t j : Nat} (h : ¬ t < 12) (hr : mv_rt t = true) : mv_cell ad cA M t j = .inl (cA (mv_ac t), mv_len t, .inr (.inr (.inr (.inr (fun i => some (ad (mv_et t) (mv_ei M t j i))))))) := by
  unfold mv_cell; rw [if_neg h, if_pos hr]
/-- a number of an object is written -/
theorem mv_fs_put {ad : Nat → Nat → Nat} {M : mv_M} {C j k : Nat} {x : Int} (h : (mv_fd C)[k]? = some none) : (mv_fs ad M C j).set k (.int (Int32.ofInt x)) = mv_fs ad (mv_up M.1 C j k x, M.2) C j := by
  apply List.ext_getElem?
  intro i
  have hk : k < (mv_fs ad M C j).length := by rw [mv_fs_len]; exact (List.getElem?_eq_some_iff.mp h).1
  by_cases hi : i = k
  · subst hi
    rw [List.getElem?_set_self hk, mv_fs_at h]
    simp [mv_fv, mv_up]
  · rw [List.getElem?_set_ne (Ne.symm hi)]
    simp only [mv_fs, List.getElem?_mapIdx]
    cases (mv_fd C)[i]? with
    | none => rfl
    | some o => cases o <;> simp [mv_fv, mv_up, hi]
theorem mv_cell_up {ad : Nat → Nat → Nat} {cA : Nat → ClassId} {M : mv_M} {t j k : Nat} {x : Int} {t' j' : Nat} (h : ¬ (t' = t ∧ j' = j)) : mv_cell ad cA (mv_up M.1 t j k x, M.2) t' j' = mv_cell ad cA M t' j' := by
  have e : ∀ i, mv_up M.1 t j k x t' j' i = M.1 t' j' i := fun i => if_neg (fun q => h ⟨q.1, q.2.1⟩)
  have e2 : mv_fs ad (mv_up M.1 t j k x, M.2) t' j' = mv_fs ad M t' j' := by
    unfold mv_fs
    congr 1
    funext i o
    cases o with
    | none => simp [mv_fv, e]
    | some o => rfl
  unfold mv_cell
  rw [e2]
  by_cases h1 : t' < 12
  · rw [if_pos h1, if_pos h1]
  · rw [if_neg h1, if_neg h1]
    by_cases h2 : mv_rt t' = true
    · rw [if_pos h2, if_pos h2]; rfl
    · rw [if_neg h2, if_neg h2]
      simp only [e]
end
section
/-! The frame of the small machine, what soundness means, and the rows of the plain instructions. -/
def mv_pr (ad : Nat → Nat → Nat) (L : mv_L) : List (Nat × Value) := L.zipIdx.filterMap (fun x => x.1.map (fun v => (x.2, mv_tr ad v)))
theorem mv_pr_mem {ad : Nat → Nat → Nat} {L : mv_L} {i : Nat} {x : Value} : (i, x) ∈ mv_pr ad L ↔ ∃ v, L[i]? = some (some v) ∧ x = mv_tr ad v := by
  simp only [mv_pr, List.mem_filterMap]
  constructor
  · rintro ⟨⟨o, n⟩, h1, h2⟩
    have h1 := List.mem_zipIdx_iff_getElem?.mp h1
    cases o with
    | none => simp at h2
    | some v =>
      simp only [Option.map_some, Option.some.injEq, Prod.mk.injEq] at h2
      obtain ⟨rfl, rfl⟩ := h2
      exact ⟨v, h1, rfl⟩
  · rintro ⟨v, h1, rfl⟩
    exact ⟨(some v, i), List.mem_zipIdx_iff_getElem?.mpr h1, rfl⟩
theorem mv_tr_cat (ad : Nat → Nat → Nat) (v : mv_V) : (mv_tr ad v).category = 1 := by
  rcases v with x | ⟨t, j⟩ <;> rfl
def mv_F (ad : Nat → Nat → Nat) (n : Nat) (ls : Array Slot) (L : mv_L) : Prop := lv_has ls n (mv_pr ad L) ∧ L.length ≤ n
theorem mv_F.at {ad : Nat → Nat → Nat} {n : Nat} {ls : Array Slot} {L : mv_L} (h : mv_F ad n ls L) {i : Nat} {v : mv_V} (hv : L[i]? = some (some v)) : ls[i]? = some (.val (mv_tr ad v)) :=
  h.1.2.2 (i, mv_tr ad v) (mv_pr_mem.mpr ⟨v, hv, rfl⟩)
theorem mv_F.put {ad : Nat → Nat → Nat} {n : Nat} {ls ls' : Array Slot} {L : mv_L} (h : mv_F ad n ls L) {i : Nat} {v : mv_V}
    (h' : lv_has ls' n ((i, mv_tr ad v) :: (mv_pr ad L).filter (fun q => !(q.1 == i) && !(q.1 + 1 == i && q.2.category == 2)))) : mv_F ad n ls' (L.set i (some v)) := by
  refine ⟨⟨h'.1, h'.2.1, fun q hq => h'.2.2 q ?_⟩, by rw [List.length_set]; exact h.2⟩
  obtain ⟨j, x⟩ := q
  obtain ⟨w, hw, rfl⟩ := mv_pr_mem.mp hq
  rw [List.getElem?_set] at hw
  by_cases hj : i = j
  · subst hj
    simp at hw
    rw [hw.2]
    exact List.mem_cons_self
  · rw [if_neg hj] at hw
    refine List.mem_cons_of_mem _ (List.mem_filter.mpr ⟨mv_pr_mem.mpr ⟨w, hw, rfl⟩, ?_⟩)
    have hc := mv_tr_cat ad w
    simp only [hc]
    have : (j == i) = false := by simp; exact fun q => hj q.symm
    simp [this]
def mv_vok (v : mv_V) : Prop := match v with
  | .inl x => -2147483648 ≤ x ∧ x ≤ 2147483647
  | .inr (t, j) => t < 33 ∧ j < mv_cnt t
def mv_Lok (L : mv_L) : Prop := ∀ (i : Nat) (v : mv_V), L[i]? = some (some v) → mv_vok v
def mv_Sok (st : List mv_V) : Prop := ∀ v ∈ st, mv_vok v
def mv_Mok (M : mv_M) : Prop := (∀ t j k, -2147483648 ≤ M.1 t j k ∧ M.1 t j k ≤ 2147483647) ∧ ∀ i, M.2 i < 6
theorem mv_Lok.set {L : mv_L} (h : mv_Lok L) {i : Nat} {v : mv_V} (hv : mv_vok v) : mv_Lok (L.set i (some v)) := by
  intro j w hw
  rw [List.getElem?_set] at hw
  by_cases hj : i = j
  · subst hj
    simp at hw
    rw [← hw.2]; exact hv
  · rw [if_neg hj] at hw
    exact h j w hw
theorem mv_Sok.cons {v : mv_V} {st : List mv_V} (hv : mv_vok v) (h : mv_Sok st) : mv_Sok (v :: st) := fun w hw => (List.mem_cons.mp hw).elim (fun e => by rw [e]; exact hv) (h w)
theorem mv_Sok.tl {v : mv_V} {st : List mv_V} (h : mv_Sok (v :: st)) : mv_Sok st := fun w hw => h w (List.mem_cons_of_mem _ hw)
theorem mv_Sok.hd {v : mv_V} {st : List mv_V} (h : mv_Sok (v :: st)) : mv_vok v := h v List.mem_cons_self
-- whole numbers
theorem mv_toInt {x : Int} (h : -2147483648 ≤ x ∧ x ≤ 2147483647) : (Int32.ofInt x).toInt = x := Int32.toInt_ofInt_of_le (by omega) (by omega)
theorem mv_add (x y : Int) : Int32.ofInt x + Int32.ofInt y = Int32.ofInt (x + y) := (Int32.ofInt_add x y).symm
theorem mv_sub (x y : Int) : Int32.ofInt x - Int32.ofInt y = Int32.ofInt (x - y) := (Int32.ofInt_sub x y).symm
theorem mv_mul (x y : Int) : Int32.ofInt x * Int32.ofInt y = Int32.ofInt (x * y) := (Int32.ofInt_mul x y).symm
theorem mv_neg (x : Int) : -Int32.ofInt x = Int32.ofInt (-x) := (Int32.ofInt_neg x).symm
theorem mv_ieq {x y : Int} (hx : -2147483648 ≤ x ∧ x ≤ 2147483647) (hy : -2147483648 ≤ y ∧ y ≤ 2147483647) : Int32.ofInt x = Int32.ofInt y ↔ x = y :=
  ⟨fun h => by rw [← mv_toInt hx, ← mv_toInt hy, h], fun h => by rw [h]⟩
theorem mv_ile {x y : Int} (hx : -2147483648 ≤ x ∧ x ≤ 2147483647) (hy : -2147483648 ≤ y ∧ y ≤ 2147483647) : Int32.ofInt x ≤ Int32.ofInt y ↔ x ≤ y := by
  rw [Int32.le_iff_toInt_le, mv_toInt hx, mv_toInt hy]
theorem mv_ilt {x y : Int} (hx : -2147483648 ≤ x ∧ x ≤ 2147483647) (hy : -2147483648 ≤ y ∧ y ≤ 2147483647) : Int32.ofInt x < Int32.ofInt y ↔ x < y := by
  rw [Int32.lt_iff_toInt_lt, mv_toInt hx, mv_toInt hy]
theorem mv_i0 : (0 : Int32) = Int32.ofInt 0 := rfl
theorem mv_r0 : -2147483648 ≤ (0 : Int) ∧ (0 : Int) ≤ 2147483647 := ⟨by decide, by decide⟩
theorem mv_div {x y : Int} (hx : 0 ≤ x ∧ x ≤ 2147483647) (hy : 0 < y ∧ y ≤ 2147483647) : Int32.ofInt x / Int32.ofInt y = Int32.ofInt (x / y) := by
  have hx' : -2147483648 ≤ x ∧ x ≤ 2147483647 := ⟨by omega, hx.2⟩
  have hy' : -2147483648 ≤ y ∧ y ≤ 2147483647 := ⟨by omega, hy.2⟩
  have hq : 0 ≤ x / y ∧ x / y ≤ x := ⟨Int.ediv_nonneg hx.1 (by omega), Int.ediv_le_self y hx.1⟩
  have hne : Int32.ofInt y ≠ -1 := by
    intro h
    have := congrArg Int32.toInt h
    rw [mv_toInt hy', show ((-1 : Int32)).toInt = -1 by decide] at this
    omega
  rw [← Int32.toInt_inj, Int32.toInt_div_of_ne_right _ _ hne, mv_toInt hx', mv_toInt hy', mv_toInt ⟨by omega, by omega⟩]
  exact Int.tdiv_eq_ediv_of_nonneg hx.1
theorem mv_rem {x y : Int} (hx : 0 ≤ x ∧ x ≤ 2147483647) (hy : 0 < y ∧ y ≤ 2147483647) : Int32.ofInt x - Int32.ofInt x / Int32.ofInt y * Int32.ofInt y = Int32.ofInt (x % y) := by
  rw [mv_div hx hy, mv_mul, mv_sub]
  congr 1
  have := Int.emod_def x y
  have h2 : x / y * y = y * (x / y) := Int.mul_comm _ _
  omega
-- the places of locals and of the stack
def mv_get : mv_L → Nat → (mv_V → Prop) → Prop
  | [], _, _ => False
  | none :: _, 0, _ => False
  | some v :: _, 0, k => k v
  | _ :: L, n + 1, k => mv_get L n k
def mv_set : mv_L → Nat → mv_V → (mv_L → Prop) → Prop
  | [], _, _, _ => False
  | _ :: L, 0, v, k => k (some v :: L)
  | x :: L, n + 1, v, k => mv_set L n v (fun L' => k (x :: L'))
theorem mv_get_at : ∀ {L : mv_L} {i : Nat} {k : mv_V → Prop}, mv_get L i k → ∃ v, L[i]? = some (some v) ∧ k v
  | [], _, _, h => h.elim
  | none :: _, 0, _, h => h.elim
  | some v :: _, 0, _, h => ⟨v, rfl, h⟩
  | none :: L, n + 1, k, h => mv_get_at (L := L) h
  | some _ :: L, n + 1, k, h => mv_get_at (L := L) h
theorem mv_set_at : ∀ {L : mv_L} {i : Nat} {v : mv_V} {k : mv_L → Prop}, mv_set L i v k → i < L.length ∧ k (L.set i (some v))
  | [], _, _, _, h => h.elim
  | _ :: L, 0, _, _, h => ⟨by simp, h⟩
  | x :: L, n + 1, v, k, h => by
    have := mv_set_at (L := L) (k := fun L' => k (x :: L')) h
    exact ⟨by simp; exact this.1, this.2⟩
def mv_tb : List Cond := lw_tbl.filter goodWord
def mv_nest : List (String × Nat × MethodName) := [("QuoteGrid$Content", 27, ⟨"QuoteGrid$Article", "<init>", "()V"⟩), ("QuoteGrid$Content", 28, ⟨"QuoteGrid$Quote", "<init>", "()V"⟩), ("QuoteGrid", 25, ⟨"QuoteGrid$Reader", "<init>", "()V"⟩), ("QuoteGrid$Reader", 11, ⟨"QuoteGrid$Text", "<init>", "()V"⟩), ("QuoteGrid", 37, ⟨"QuoteGrid$Trial", "<init>", "()V"⟩), ("QuoteGrid$Layout", 21, ⟨"QuoteGrid$Flow", "<init>", "()V"⟩), ("QuoteGrid$Content", 49, ⟨"QuoteGrid", "isWithin", "(III)Z"⟩), ("QuoteGrid$Layout", 81, ⟨"QuoteGrid", "moduleAt", "(III)I"⟩), ("QuoteGrid$Flow", 45, ⟨"QuoteGrid", "pageOf", "(I)I"⟩), ("QuoteGrid$Quote", 37, ⟨"QuoteGrid", "pageOf", "(I)I"⟩), ("QuoteGrid$Quote", 41, ⟨"QuoteGrid", "columnOf", "(I)I"⟩), ("QuoteGrid$Quote", 44, ⟨"QuoteGrid", "rowOf", "(I)I"⟩), ("QuoteGrid$Quote", 56, ⟨"QuoteGrid", "differenceOfRuns", "(IIII)I"⟩), ("QuoteGrid$Flow", 52, ⟨"QuoteGrid", "isWithin", "(III)Z"⟩), ("QuoteGrid$Layout", 109, ⟨"QuoteGrid", "pageOf", "(I)I"⟩), ("QuoteGrid$Trial", 113, ⟨"QuoteGrid", "isWithin", "(III)Z"⟩), ("QuoteGrid$Reader", 117, ⟨"QuoteGrid", "isWithin", "(III)Z"⟩)]
def mv_N (U : State) : Prop := ∀ q ∈ mv_nest, va_Nw (.methodLinkNest q.1 q.2.1 q.2.2 "QuoteGrid") U
theorem mv_N.warm {s U : State} (hW : s.WarmedH U.vm) (h : mv_N s) : mv_N U := fun q hq => va_Nw.warmM hW (h q hq)
theorem mv_N.same {s U : State} (hv : s.vm = U.vm) (h : mv_N s) : mv_N U := fun q hq => va_Nw.same rfl hv (h q hq)
def mv_rm (lvl : Nat) : Room := { frames := lvl + 1, cells := 0, slots := 0, locals := 40 + 30 * lvl }
def mv_Cx (cc : ByteArray) (maxL : Nat) (ret : Option FieldType) (own : String) (p : Program) (s : State) (m : MethodId) (args : Array Value) (meth : Method) (c : Code) : Prop :=
  p.tables.exec = Jvm.exec ∧ c.code = cc ∧ c.maxLocals = maxL ∧ s.vm.findClass own = some m.cls ∧ (∀ w ∈ mv_tb, w.before args s = true) ∧ meth.sig.returnType = ret ∧ meth.locks = false
def mv_Qc (ad : Nat → Nat → Nat) (D : va_G) (cA : Nat → ClassId) (Q : mv_R) : Array Value → State → Outcome → State → Prop := fun _ st oc t =>
  (∃ (v : Option mv_V) (M' : mv_M), oc = .returned (v.map (mv_tr ad)) ∧ Q v M' ∧ (∀ w, v = some w → mv_vok w) ∧ mv_Mok M' ∧ va_P D vwCl (mv_ws ad cA M') t.heap) ∧ va_F (mv_A ad) st t
def mv_St (ad : Nat → Nat → Nat) (D : va_G) (cA : Nat → ClassId) (n : Nat) (H0 : Heap) (M : mv_M) (L : mv_L) (st : List mv_V) (H : Heap) (locs : List Loc) (ls : Array Slot) : Prop :=
  va_P D vwCl (mv_ws ad cA M) H ∧ va_D (mv_A ad) (mv_ws ad cA M) ∧ va_S (mv_A ad) H0 H locs ∧ mv_F ad n ls L ∧ mv_Lok L ∧ mv_Sok st ∧ mv_Mok M
theorem mv_D_any {A : Nat → Prop} {ad : Nat → Nat → Nat} {cA : Nat → ClassId} {M M' : mv_M} (h : va_D A (mv_ws ad cA M)) : va_D A (mv_ws ad cA M') := by
  have key : ∀ (i : Nat) (q : Nat × va_E), (mv_ws ad cA M')[i]? = some q → ∃ q', (mv_ws ad cA M)[i]? = some q' ∧ q'.1 = q.1 := by
    intro i q hq
    simp only [mv_ws, List.getElem?_map] at hq ⊢
    cases hx : mv_IX[i]? with
    | none => rw [hx] at hq; cases hq
    | some x => rw [hx] at hq; cases hq; exact ⟨_, rfl, rfl⟩
  refine ⟨fun i j p q hi hj hpq => ?_, fun k q hk => ?_⟩
  · obtain ⟨p', h1, e1⟩ := key i p hi
    obtain ⟨q', h2, e2⟩ := key j q hj
    exact h.1 i j p' q' h1 h2 (by rw [e1, e2]; exact hpq)
  · obtain ⟨q', h1, e1⟩ := key k q hk
    rw [← e1]; exact h.2 k q' h1
/-- an operator is sound at a pc of a method -/
def mv_Snd (cc : ByteArray) (maxL : Nat) (ret : Option FieldType) (own : String) (lvl : Nat) (pc : Nat) (op : mv_O) : Prop :=
  ∀ (p : Program) (l : Launch) (e : Env) (s : State) (m : MethodId) (args : Array Value) (below : List Frame) (meth : Method) (c : Code) (ad : Nat → Nat → Nat) (D : va_G) (cA : Nat → ClassId) (K : mv_K) (Q : mv_R) (L : mv_L) (st : List mv_V) (M : mv_M) (H : Heap) (locs : List Loc) (ls : Array Slot),
    mv_Cx cc maxL ret own p s m args meth c → va_K D vwCl (mv_tys cA) s → mv_N s → op K Q L st M → mv_St ad D cA maxL s.heap M L st H locs ls →
    (∀ (pc' : Nat) (L' : mv_L) (st' : List mv_V) (M' : mv_M) (H' : Heap) (locs' : List Loc) (ls' : Array Slot), K pc' L' st' M' → mv_St ad D cA maxL s.heap M' L' st' H' locs' ls' →
      W p l e (mv_rm lvl) s m args below meth c H' locs' 0 0 (MQ below (mv_Qc ad D cA Q) args s 0 0 (mv_A ad)) (F0 m pc' ls' (st'.map (mv_tr ad)))) →
    W p l e (mv_rm lvl) s m args below meth c H locs 0 0 (MQ below (mv_Qc ad D cA Q) args s 0 0 (mv_A ad)) (F0 m pc ls (st.map (mv_tr ad)))
-- the plain operators
def mo_no : mv_O := fun _ _ _ _ _ => False
def mo_const (z : Int) (nx : Nat) : mv_O := fun K _ L st M => K nx L (.inl z :: st) M
def mo_iload (i nx : Nat) : mv_O := fun K _ L st M => mv_get L i (fun v => match v with
  | .inl x => K nx L (.inl x :: st) M
  | .inr _ => False)
def mo_aload (i nx : Nat) : mv_O := fun K _ L st M => mv_get L i (fun v => match v with
  | .inr (t, j) => K nx L (.inr (t, j) :: st) M
  | .inl _ => False)
def mo_istore (i nx : Nat) : mv_O := fun K _ L st M => match st with
  | .inl x :: st' => mv_set L i (.inl x) (fun L' => K nx L' st' M)
  | _ => False
def mo_astore (i nx : Nat) : mv_O := fun K _ L st M => match st with
  | .inr (t, j) :: st' => mv_set L i (.inr (t, j)) (fun L' => K nx L' st' M)
  | _ => False
def mo_iinc (i : Nat) (d : Int) (nx : Nat) : mv_O := fun K _ L st M => mv_get L i (fun v => match v with
  | .inl x => (-2147483648 ≤ x + d ∧ x + d ≤ 2147483647) ∧ mv_set L i (.inl (x + d)) (fun L' => K nx L' st M)
  | .inr _ => False)
def mo_iadd (nx : Nat) : mv_O := fun K _ L st M => match st with
  | .inl y :: .inl x :: st' => (-2147483648 ≤ x + y ∧ x + y ≤ 2147483647) ∧ K nx L (.inl (x + y) :: st') M
  | _ => False
def mo_isub (nx : Nat) : mv_O := fun K _ L st M => match st with
  | .inl y :: .inl x :: st' => (-2147483648 ≤ x - y ∧ x - y ≤ 2147483647) ∧ K nx L (.inl (x - y) :: st') M
  | _ => False
def mo_imul (nx : Nat) : mv_O := fun K _ L st M => match st with
  | .inl y :: .inl x :: st' => (-2147483648 ≤ x * y ∧ x * y ≤ 2147483647) ∧ K nx L (.inl (x * y) :: st') M
  | _ => False
def mo_idiv (nx : Nat) : mv_O := fun K _ L st M => match st with
  | .inl y :: .inl x :: st' => (0 ≤ x ∧ 0 < y) ∧ K nx L (.inl (x / y) :: st') M
  | _ => False
def mo_irem (nx : Nat) : mv_O := fun K _ L st M => match st with
  | .inl y :: .inl x :: st' => (0 ≤ x ∧ 0 < y) ∧ K nx L (.inl (x % y) :: st') M
  | _ => False
def mo_ineg (nx : Nat) : mv_O := fun K _ L st M => match st with
  | .inl x :: st' => (-2147483648 ≤ -x ∧ -x ≤ 2147483647) ∧ K nx L (.inl (-x) :: st') M
  | _ => False
def mo_dup (nx : Nat) : mv_O := fun K _ L st M => match st with
  | v :: st' => K nx L (v :: v :: st') M
  | _ => False
def mo_pop (nx : Nat) : mv_O := fun K _ L st M => match st with
  | _ :: st' => K nx L st' M
  | _ => False
def mo_dup2 (nx : Nat) : mv_O := fun K _ L st M => match st with
  | v :: w :: st' => K nx L (v :: w :: v :: w :: st') M
  | _ => False
def mo_goto (tg : Nat) : mv_O := fun K _ L st M => K tg L st M
def mo_ifeq (tg nx : Nat) : mv_O := fun K _ L st M => match st with
  | .inl x :: st' => (x = 0 → K tg L st' M) ∧ (¬ x = 0 → K nx L st' M)
  | _ => False
def mo_ifne (tg nx : Nat) : mv_O := fun K _ L st M => match st with
  | .inl x :: st' => (¬ x = 0 → K tg L st' M) ∧ (x = 0 → K nx L st' M)
  | _ => False
def mo_iflt (tg nx : Nat) : mv_O := fun K _ L st M => match st with
  | .inl x :: st' => (x < 0 → K tg L st' M) ∧ (0 ≤ x → K nx L st' M)
  | _ => False
def mo_ifge (tg nx : Nat) : mv_O := fun K _ L st M => match st with
  | .inl x :: st' => (0 ≤ x → K tg L st' M) ∧ (x < 0 → K nx L st' M)
  | _ => False
def mo_ifle (tg nx : Nat) : mv_O := fun K _ L st M => match st with
  | .inl x :: st' => (x ≤ 0 → K tg L st' M) ∧ (0 < x → K nx L st' M)
  | _ => False
def mo_ceq (tg nx : Nat) : mv_O := fun K _ L st M => match st with
  | .inl y :: .inl x :: st' => (x = y → K tg L st' M) ∧ (¬ x = y → K nx L st' M)
  | _ => False
def mo_cne (tg nx : Nat) : mv_O := fun K _ L st M => match st with
  | .inl y :: .inl x :: st' => (¬ x = y → K tg L st' M) ∧ (x = y → K nx L st' M)
  | _ => False
def mo_clt (tg nx : Nat) : mv_O := fun K _ L st M => match st with
  | .inl y :: .inl x :: st' => (x < y → K tg L st' M) ∧ (y ≤ x → K nx L st' M)
  | _ => False
def mo_cge (tg nx : Nat) : mv_O := fun K _ L st M => match st with
  | .inl y :: .inl x :: st' => (y ≤ x → K tg L st' M) ∧ (x < y → K nx L st' M)
  | _ => False
def mo_cgt (tg nx : Nat) : mv_O := fun K _ L st M => match st with
  | .inl y :: .inl x :: st' => (y < x → K tg L st' M) ∧ (x ≤ y → K nx L st' M)
  | _ => False
def mo_cle (tg nx : Nat) : mv_O := fun K _ L st M => match st with
  | .inl y :: .inl x :: st' => (x ≤ y → K tg L st' M) ∧ (y < x → K nx L st' M)
  | _ => False
def mv_tsw : Int → List Nat → Int → (Nat → Prop) → Prop
  | _, [], _, _ => True
  | lo, t :: ts, x, k => (x = lo → k t) ∧ mv_tsw (lo + 1) ts x k
def mo_tsw (lo : Int) (tgs : List Nat) (df : Nat) : mv_O := fun K _ L st M => match st with
  | .inl x :: st' => ((x < lo ∨ lo + (tgs.length : Int) ≤ x) → K df L st' M) ∧ mv_tsw lo tgs x (fun t => K t L st' M)
  | _ => False
def mo_iret : mv_O := fun _ Q _ st M => match st with
  | [.inl x] => Q (some (.inl x)) M
  | _ => False
def mo_zret : mv_O := fun _ Q _ st M => match st with
  | [.inl x] => (x = 0 ∨ x = 1) ∧ Q (some (.inl x)) M
  | _ => False
def mo_aret : mv_O := fun _ Q _ st M => match st with
  | [.inr (t, j)] => Q (some (.inr (t, j))) M
  | _ => False
def mo_vret : mv_O := fun _ Q _ st M => match st with
  | [] => Q none M
  | _ => False
section MVS
variable {cc : ByteArray} {maxL : Nat} {ret : Option FieldType} {own : String} {lvl pc : Nat}
theorem ms_no : mv_Snd cc maxL ret own lvl pc mo_no := fun _ _ _ _ _ _ _ _ _ _ _ _ _ _ _ _ _ _ _ _ _ _ _ h => h.elim
theorem ms_iconst {n : Int} (hd : decode cc pc = .ok (.iconst n, 1)) (hn : -2147483648 ≤ n ∧ n ≤ 2147483647) : mv_Snd cc maxL ret own lvl pc (mo_const n (pc + 1)) := by
  intro p l e s m args below meth c ad D cA K Q L st M H locs ls C hK hN h S k
  exact lv_iconst C.1 C.2.1 hd rfl (k _ _ _ _ _ _ _ h ⟨S.1, S.2.1, S.2.2.1, S.2.2.2.1, S.2.2.2.2.1, S.2.2.2.2.2.1.cons hn, S.2.2.2.2.2.2⟩)
theorem ms_bipush {n : Int} (hd : decode cc pc = .ok (.bipush n, 2)) (hv : (Int8.ofInt n).toInt32 = Int32.ofInt n) (hn : -2147483648 ≤ n ∧ n ≤ 2147483647) : mv_Snd cc maxL ret own lvl pc (mo_const n (pc + 2)) := by
  intro p l e s m args below meth c ad D cA K Q L st M H locs ls C hK hN h S k
  exact lv_bipush C.1 C.2.1 hd hv (k _ _ _ _ _ _ _ h ⟨S.1, S.2.1, S.2.2.1, S.2.2.2.1, S.2.2.2.2.1, S.2.2.2.2.2.1.cons hn, S.2.2.2.2.2.2⟩)
theorem ms_sipush {n : Int} (hd : decode cc pc = .ok (.sipush n, 3)) (hv : (Int16.ofInt n).toInt32 = Int32.ofInt n) (hn : -2147483648 ≤ n ∧ n ≤ 2147483647) : mv_Snd cc maxL ret own lvl pc (mo_const n (pc + 3)) := by
  intro p l e s m args below meth c ad D cA K Q L st M H locs ls C hK hN h S k
  exact lv_sipush C.1 C.2.1 hd hv (k _ _ _ _ _ _ _ h ⟨S.1, S.2.1, S.2.2.1, S.2.2.2.1, S.2.2.2.2.1, S.2.2.2.2.2.1.cons hn, S.2.2.2.2.2.2⟩)
theorem ms_ldc {idx : Nat} {n : Int} (hd : decode cc pc = .ok (.ldc idx, 2)) (hw : Cond.constant own idx (Int32.ofInt n) ∈ mv_tb) (hn : -2147483648 ≤ n ∧ n ≤ 2147483647) : mv_Snd cc maxL ret own lvl pc (mo_const n (pc + 2)) := by
  intro p l e s m args below meth c ad D cA K Q L st M H locs ls C hK hN h S k
  exact lv_ldc C.1 C.2.1 C.2.2.2.1 (C.2.2.2.2.1 _ hw) hd (k _ _ _ _ _ _ _ h ⟨S.1, S.2.1, S.2.2.1, S.2.2.2.1, S.2.2.2.2.1, S.2.2.2.2.2.1.cons hn, S.2.2.2.2.2.2⟩)
theorem ms_iload_n {q : Fin 4} {i : Nat} (hd : decode cc pc = .ok (.iload_n q, 1)) (hi : (q : Nat) = i) : mv_Snd cc maxL ret own lvl pc (mo_iload i (pc + 1)) := by
  intro p l e s m args below meth c ad D cA K Q L st M H locs ls C hK hN h S k
  obtain ⟨v, hv, h⟩ := mv_get_at h
  rcases v with x | ⟨t, j⟩
  · exact lv_iload_n C.1 C.2.1 hd hi (S.2.2.2.1.at hv) (k _ _ _ _ _ _ _ h ⟨S.1, S.2.1, S.2.2.1, S.2.2.2.1, S.2.2.2.2.1, S.2.2.2.2.2.1.cons (S.2.2.2.2.1 _ _ hv), S.2.2.2.2.2.2⟩)
  · exact h.elim
theorem ms_iload {i : Nat} (hd : decode cc pc = .ok (.iload i, 2)) : mv_Snd cc maxL ret own lvl pc (mo_iload i (pc + 2)) := by
  intro p l e s m args below meth c ad D cA K Q L st M H locs ls C hK hN h S k
  obtain ⟨v, hv, h⟩ := mv_get_at h
  rcases v with x | ⟨t, j⟩
  · exact lv_iload C.1 C.2.1 hd (S.2.2.2.1.at hv) (k _ _ _ _ _ _ _ h ⟨S.1, S.2.1, S.2.2.1, S.2.2.2.1, S.2.2.2.2.1, S.2.2.2.2.2.1.cons (S.2.2.2.2.1 _ _ hv), S.2.2.2.2.2.2⟩)
  · exact h.elim
theorem ms_aload_n {q : Fin 4} {i : Nat} (hd : decode cc pc = .ok (.aload_n q, 1)) (hi : (q : Nat) = i) : mv_Snd cc maxL ret own lvl pc (mo_aload i (pc + 1)) := by
  intro p l e s m args below meth c ad D cA K Q L st M H locs ls C hK hN h S k
  obtain ⟨v, hv, h⟩ := mv_get_at h
  rcases v with x | ⟨t, j⟩
  · exact h.elim
  · exact lv_aload_n C.1 C.2.1 hd hi (S.2.2.2.1.at hv) (k _ _ _ _ _ _ _ h ⟨S.1, S.2.1, S.2.2.1, S.2.2.2.1, S.2.2.2.2.1, S.2.2.2.2.2.1.cons (S.2.2.2.2.1 _ _ hv), S.2.2.2.2.2.2⟩)
theorem ms_aload {i : Nat} (hd : decode cc pc = .ok (.aload i, 2)) : mv_Snd cc maxL ret own lvl pc (mo_aload i (pc + 2)) := by
  intro p l e s m args below meth c ad D cA K Q L st M H locs ls C hK hN h S k
  obtain ⟨v, hv, h⟩ := mv_get_at h
  rcases v with x | ⟨t, j⟩
  · exact h.elim
  · exact lv_aload C.1 C.2.1 hd (S.2.2.2.1.at hv) (k _ _ _ _ _ _ _ h ⟨S.1, S.2.1, S.2.2.1, S.2.2.2.1, S.2.2.2.2.1, S.2.2.2.2.2.1.cons (S.2.2.2.2.1 _ _ hv), S.2.2.2.2.2.2⟩)
theorem ms_istore_n {q : Fin 4} {i : Nat} (hd : decode cc pc = .ok (.istore_n q, 1)) (hi : (q : Nat) = i) : mv_Snd cc maxL ret own lvl pc (mo_istore i (pc + 1)) := by
  intro p l e s m args below meth c ad D cA K Q L st M H locs ls C hK hN h S k
  match st, h, S with
  | .inl x :: st', h, S =>
    obtain ⟨hl, h⟩ := mv_set_at h
    refine lv_istore_n C.1 C.2.1 hd hi S.2.2.2.1.1 (Nat.lt_of_lt_of_le hl S.2.2.2.1.2) rfl (fun ls' hl' => ?_)
    exact k _ _ _ _ _ _ _ h ⟨S.1, S.2.1, S.2.2.1, S.2.2.2.1.put (v := .inl x) hl', S.2.2.2.2.1.set S.2.2.2.2.2.1.hd, S.2.2.2.2.2.1.tl, S.2.2.2.2.2.2⟩
theorem ms_istore {i : Nat} (hd : decode cc pc = .ok (.istore i, 2)) : mv_Snd cc maxL ret own lvl pc (mo_istore i (pc + 2)) := by
  intro p l e s m args below meth c ad D cA K Q L st M H locs ls C hK hN h S k
  match st, h, S with
  | .inl x :: st', h, S =>
    obtain ⟨hl, h⟩ := mv_set_at h
    refine lv_istore C.1 C.2.1 hd S.2.2.2.1.1 (Nat.lt_of_lt_of_le hl S.2.2.2.1.2) rfl (fun ls' hl' => ?_)
    exact k _ _ _ _ _ _ _ h ⟨S.1, S.2.1, S.2.2.1, S.2.2.2.1.put (v := .inl x) hl', S.2.2.2.2.1.set S.2.2.2.2.2.1.hd, S.2.2.2.2.2.1.tl, S.2.2.2.2.2.2⟩
theorem ms_astore_n {q : Fin 4} {i : Nat} (hd : decode cc pc = .ok (.astore_n q, 1)) (hi : (q : Nat) = i) : mv_Snd cc maxL ret own lvl pc (mo_astore i (pc + 1)) := by
  intro p l e s m args below meth c ad D cA K Q L st M H locs ls C hK hN h S k
  match st, h, S with
  | .inr (t, j) :: st', h, S =>
    obtain ⟨hl, h⟩ := mv_set_at h
    refine lv_astore_n C.1 C.2.1 hd hi S.2.2.2.1.1 (Nat.lt_of_lt_of_le hl S.2.2.2.1.2) rfl (fun ls' hl' => ?_)
    exact k _ _ _ _ _ _ _ h ⟨S.1, S.2.1, S.2.2.1, S.2.2.2.1.put (v := .inr (t, j)) hl', S.2.2.2.2.1.set S.2.2.2.2.2.1.hd, S.2.2.2.2.2.1.tl, S.2.2.2.2.2.2⟩
theorem ms_astore {i : Nat} (hd : decode cc pc = .ok (.astore i, 2)) : mv_Snd cc maxL ret own lvl pc (mo_astore i (pc + 2)) := by
  intro p l e s m args below meth c ad D cA K Q L st M H locs ls C hK hN h S k
  match st, h, S with
  | .inr (t, j) :: st', h, S =>
    obtain ⟨hl, h⟩ := mv_set_at h
    refine lv_astore C.1 C.2.1 hd S.2.2.2.1.1 (Nat.lt_of_lt_of_le hl S.2.2.2.1.2) rfl (fun ls' hl' => ?_)
    exact k _ _ _ _ _ _ _ h ⟨S.1, S.2.1, S.2.2.1, S.2.2.2.1.put (v := .inr (t, j)) hl', S.2.2.2.2.1.set S.2.2.2.2.2.1.hd, S.2.2.2.2.2.1.tl, S.2.2.2.2.2.2⟩
theorem ms_iinc {i : Nat} {n : Int} (hd : decode cc pc = .ok (.iinc i n, 3)) : mv_Snd cc maxL ret own lvl pc (mo_iinc i n (pc + 3)) := by
  intro p l e s m args below meth c ad D cA K Q L st M H locs ls C hK hN h S k
  obtain ⟨v, hv, h⟩ := mv_get_at h
  rcases v with x | ⟨t, j⟩
  · obtain ⟨hr, h⟩ := h
    obtain ⟨hl, h⟩ := mv_set_at h
    obtain ⟨q, hq⟩ := List.getElem?_of_mem (mv_pr_mem.mpr ⟨_, hv, rfl⟩ : (i, mv_tr ad (.inl x)) ∈ mv_pr ad L)
    refine lv_iinc (x := Int32.ofInt x) C.1 C.2.1 hd S.2.2.2.1.1 hq (mv_add x n) (Nat.lt_of_lt_of_le hl S.2.2.2.1.2) rfl (fun ls' hl' => ?_)
    exact k _ _ _ _ _ _ _ h ⟨S.1, S.2.1, S.2.2.1, S.2.2.2.1.put (v := .inl (x + n)) hl', S.2.2.2.2.1.set hr, S.2.2.2.2.2.1, S.2.2.2.2.2.2⟩
  · exact h.elim
theorem ms_iadd (hd : decode cc pc = .ok (.iadd, 1)) : mv_Snd cc maxL ret own lvl pc (mo_iadd (pc + 1)) := by
  intro p l e s m args below meth c ad D cA K Q L st M H locs ls C hK hN h S k
  match st, h, S with
  | .inl y :: .inl x :: st', h, S =>
    refine lv_iadd C.1 C.2.1 hd ?_
    rw [mv_add]
    exact k _ _ _ _ _ _ _ h.2 ⟨S.1, S.2.1, S.2.2.1, S.2.2.2.1, S.2.2.2.2.1, S.2.2.2.2.2.1.tl.tl.cons h.1, S.2.2.2.2.2.2⟩
theorem ms_isub (hd : decode cc pc = .ok (.isub, 1)) : mv_Snd cc maxL ret own lvl pc (mo_isub (pc + 1)) := by
  intro p l e s m args below meth c ad D cA K Q L st M H locs ls C hK hN h S k
  match st, h, S with
  | .inl y :: .inl x :: st', h, S =>
    refine lv_isub C.1 C.2.1 hd ?_
    rw [mv_sub]
    exact k _ _ _ _ _ _ _ h.2 ⟨S.1, S.2.1, S.2.2.1, S.2.2.2.1, S.2.2.2.2.1, S.2.2.2.2.2.1.tl.tl.cons h.1, S.2.2.2.2.2.2⟩
theorem ms_imul (hd : decode cc pc = .ok (.imul, 1)) : mv_Snd cc maxL ret own lvl pc (mo_imul (pc + 1)) := by
  intro p l e s m args below meth c ad D cA K Q L st M H locs ls C hK hN h S k
  match st, h, S with
  | .inl y :: .inl x :: st', h, S =>
    refine lv_imul C.1 C.2.1 hd ?_
    rw [mv_mul]
    exact k _ _ _ _ _ _ _ h.2 ⟨S.1, S.2.1, S.2.2.1, S.2.2.2.1, S.2.2.2.2.1, S.2.2.2.2.2.1.tl.tl.cons h.1, S.2.2.2.2.2.2⟩
theorem ms_idiv (hd : decode cc pc = .ok (.idiv, 1)) : mv_Snd cc maxL ret own lvl pc (mo_idiv (pc + 1)) := by
  intro p l e s m args below meth c ad D cA K Q L st M H locs ls C hK hN h S k
  match st, h, S with
  | .inl y :: .inl x :: st', h, S =>
    have hy := S.2.2.2.2.2.1.hd
    have hx := S.2.2.2.2.2.1.tl.hd
    have hq : 0 ≤ x / y ∧ x / y ≤ x := ⟨Int.ediv_nonneg h.1.1 (by have := h.1.2; omega), Int.ediv_le_self y h.1.1⟩
    have hx2 : x ≤ 2147483647 := hx.2
    refine lv_idiv C.1 C.2.1 hd (fun e0 => ?_) ?_
    · have := (mv_ieq hy mv_r0).mp e0
      have := h.1.2
      omega
    · rw [mv_div ⟨h.1.1, hx.2⟩ ⟨h.1.2, hy.2⟩]
      exact k _ _ _ _ _ _ _ h.2 ⟨S.1, S.2.1, S.2.2.1, S.2.2.2.1, S.2.2.2.2.1, S.2.2.2.2.2.1.tl.tl.cons (show _ ∧ _ from ⟨by omega, by omega⟩), S.2.2.2.2.2.2⟩
theorem ms_irem (hd : decode cc pc = .ok (.irem, 1)) : mv_Snd cc maxL ret own lvl pc (mo_irem (pc + 1)) := by
  intro p l e s m args below meth c ad D cA K Q L st M H locs ls C hK hN h S k
  match st, h, S with
  | .inl y :: .inl x :: st', h, S =>
    have hy := S.2.2.2.2.2.1.hd
    have hx := S.2.2.2.2.2.1.tl.hd
    have hy2 : y ≤ 2147483647 := hy.2
    have hq : 0 ≤ x % y ∧ x % y < y := ⟨Int.emod_nonneg _ (by have := h.1.2; omega), Int.emod_lt_of_pos _ h.1.2⟩
    refine lv_irem C.1 C.2.1 hd (fun e0 => ?_) ?_
    · have := (mv_ieq hy mv_r0).mp e0
      have := h.1.2
      omega
    · rw [mv_rem ⟨h.1.1, hx.2⟩ ⟨h.1.2, hy.2⟩]
      exact k _ _ _ _ _ _ _ h.2 ⟨S.1, S.2.1, S.2.2.1, S.2.2.2.1, S.2.2.2.2.1, S.2.2.2.2.2.1.tl.tl.cons (show _ ∧ _ from ⟨by omega, by omega⟩), S.2.2.2.2.2.2⟩
theorem ms_ineg (hd : decode cc pc = .ok (.ineg, 1)) : mv_Snd cc maxL ret own lvl pc (mo_ineg (pc + 1)) := by
  intro p l e s m args below meth c ad D cA K Q L st M H locs ls C hK hN h S k
  match st, h, S with
  | .inl x :: st', h, S =>
    refine lv_ineg C.1 C.2.1 hd ?_
    rw [mv_neg]
    exact k _ _ _ _ _ _ _ h.2 ⟨S.1, S.2.1, S.2.2.1, S.2.2.2.1, S.2.2.2.2.1, S.2.2.2.2.2.1.tl.cons h.1, S.2.2.2.2.2.2⟩
theorem ms_dup (hd : decode cc pc = .ok (.dup, 1)) : mv_Snd cc maxL ret own lvl pc (mo_dup (pc + 1)) := by
  intro p l e s m args below meth c ad D cA K Q L st M H locs ls C hK hN h S k
  match st, h, S with
  | v :: st', h, S =>
    exact lv_dup C.1 C.2.1 hd (mv_tr_cat ad v) (k _ _ _ _ _ _ _ h ⟨S.1, S.2.1, S.2.2.1, S.2.2.2.1, S.2.2.2.2.1, S.2.2.2.2.2.1.cons S.2.2.2.2.2.1.hd, S.2.2.2.2.2.2⟩)
theorem ms_pop (hd : decode cc pc = .ok (.pop, 1)) : mv_Snd cc maxL ret own lvl pc (mo_pop (pc + 1)) := by
  intro p l e s m args below meth c ad D cA K Q L st M H locs ls C hK hN h S k
  match st, h, S with
  | v :: st', h, S =>
    exact lv_pop C.1 C.2.1 hd (mv_tr_cat ad v) (k _ _ _ _ _ _ _ h ⟨S.1, S.2.1, S.2.2.1, S.2.2.2.1, S.2.2.2.2.1, S.2.2.2.2.2.1.tl, S.2.2.2.2.2.2⟩)
theorem ms_dup2 (hd : decode cc pc = .ok (.dup2, 1)) : mv_Snd cc maxL ret own lvl pc (mo_dup2 (pc + 1)) := by
  intro p l e s m args below meth c ad D cA K Q L st M H locs ls C hK hN h S k
  match st, h, S with
  | v :: w :: st', h, S =>
    exact lv_dup2_11 C.1 C.2.1 hd (mv_tr_cat ad v) (mv_tr_cat ad w) (k _ _ _ _ _ _ _ h ⟨S.1, S.2.1, S.2.2.1, S.2.2.2.1, S.2.2.2.2.1, (S.2.2.2.2.2.1.cons S.2.2.2.2.2.1.tl.hd).cons S.2.2.2.2.2.1.hd, S.2.2.2.2.2.2⟩)
theorem ms_goto {off : Int} {tg : Nat} (hd : decode cc pc = .ok (.goto off, 3)) (ht : (pc : Int) + off = (tg : Int)) : mv_Snd cc maxL ret own lvl pc (mo_goto tg) := by
  intro p l e s m args below meth c ad D cA K Q L st M H locs ls C hK hN h S k
  exact lv_goto C.1 C.2.1 hd ht (k _ _ _ _ _ _ _ h S)
theorem ms_ifeq {off : Int} {tg : Nat} (hd : decode cc pc = .ok (.ifCond .eq off, 3)) (ht : (pc : Int) + off = (tg : Int)) : mv_Snd cc maxL ret own lvl pc (mo_ifeq tg (pc + 3)) := by
  intro p l e s m args below meth c ad D cA K Q L st M H locs ls C hK hN h S k
  match st, h, S with
  | .inl x :: st', h, S =>
    have hx := S.2.2.2.2.2.1.hd
    have S' : mv_St ad D cA maxL s.heap M L st' H locs ls := ⟨S.1, S.2.1, S.2.2.1, S.2.2.2.1, S.2.2.2.2.1, S.2.2.2.2.2.1.tl, S.2.2.2.2.2.2⟩
    exact lv_if_eq C.1 C.2.1 hd ht (fun q => k _ _ _ _ _ _ _ (h.1 ((mv_ieq hx mv_r0).mp q)) S') (fun q => k _ _ _ _ _ _ _ (h.2 (fun z => q ((mv_ieq hx mv_r0).mpr z))) S')
theorem ms_ifne {off : Int} {tg : Nat} (hd : decode cc pc = .ok (.ifCond .ne off, 3)) (ht : (pc : Int) + off = (tg : Int)) : mv_Snd cc maxL ret own lvl pc (mo_ifne tg (pc + 3)) := by
  intro p l e s m args below meth c ad D cA K Q L st M H locs ls C hK hN h S k
  match st, h, S with
  | .inl x :: st', h, S =>
    have hx := S.2.2.2.2.2.1.hd
    have S' : mv_St ad D cA maxL s.heap M L st' H locs ls := ⟨S.1, S.2.1, S.2.2.1, S.2.2.2.1, S.2.2.2.2.1, S.2.2.2.2.2.1.tl, S.2.2.2.2.2.2⟩
    exact lv_if_ne C.1 C.2.1 hd ht (fun q => k _ _ _ _ _ _ _ (h.1 (fun z => q ((mv_ieq hx mv_r0).mpr z))) S') (fun q => k _ _ _ _ _ _ _ (h.2 ((mv_ieq hx mv_r0).mp q)) S')
theorem ms_iflt {off : Int} {tg : Nat} (hd : decode cc pc = .ok (.ifCond .lt off, 3)) (ht : (pc : Int) + off = (tg : Int)) : mv_Snd cc maxL ret own lvl pc (mo_iflt tg (pc + 3)) := by
  intro p l e s m args below meth c ad D cA K Q L st M H locs ls C hK hN h S k
  match st, h, S with
  | .inl x :: st', h, S =>
    have hx := S.2.2.2.2.2.1.hd
    have S' : mv_St ad D cA maxL s.heap M L st' H locs ls := ⟨S.1, S.2.1, S.2.2.1, S.2.2.2.1, S.2.2.2.2.1, S.2.2.2.2.2.1.tl, S.2.2.2.2.2.2⟩
    exact lv_if_lt C.1 C.2.1 hd ht (fun q => k _ _ _ _ _ _ _ (h.1 ((mv_ilt hx mv_r0).mp q)) S') (fun q => k _ _ _ _ _ _ _ (h.2 (Int.not_lt.mp fun z => q ((mv_ilt hx mv_r0).mpr z))) S')
theorem ms_ifge {off : Int} {tg : Nat} (hd : decode cc pc = .ok (.ifCond .ge off, 3)) (ht : (pc : Int) + off = (tg : Int)) : mv_Snd cc maxL ret own lvl pc (mo_ifge tg (pc + 3)) := by
  intro p l e s m args below meth c ad D cA K Q L st M H locs ls C hK hN h S k
  match st, h, S with
  | .inl x :: st', h, S =>
    have hx := S.2.2.2.2.2.1.hd
    have S' : mv_St ad D cA maxL s.heap M L st' H locs ls := ⟨S.1, S.2.1, S.2.2.1, S.2.2.2.1, S.2.2.2.2.1, S.2.2.2.2.2.1.tl, S.2.2.2.2.2.2⟩
    exact lv_if_ge C.1 C.2.1 hd ht (fun q => k _ _ _ _ _ _ _ (h.1 ((mv_ile mv_r0 hx).mp q)) S') (fun q => k _ _ _ _ _ _ _ (h.2 (Int.not_le.mp fun z => q ((mv_ile mv_r0 hx).mpr z))) S')
theorem ms_ifle {off : Int} {tg : Nat} (hd : decode cc pc = .ok (.ifCond .le off, 3)) (ht : (pc : Int) + off = (tg : Int)) : mv_Snd cc maxL ret own lvl pc (mo_ifle tg (pc + 3)) := by
  intro p l e s m args below meth c ad D cA K Q L st M H locs ls C hK hN h S k
  match st, h, S with
  | .inl x :: st', h, S =>
    have hx := S.2.2.2.2.2.1.hd
    have S' : mv_St ad D cA maxL s.heap M L st' H locs ls := ⟨S.1, S.2.1, S.2.2.1, S.2.2.2.1, S.2.2.2.2.1, S.2.2.2.2.2.1.tl, S.2.2.2.2.2.2⟩
    exact lv_if_le C.1 C.2.1 hd ht (fun q => k _ _ _ _ _ _ _ (h.1 ((mv_ile hx mv_r0).mp q)) S') (fun q => k _ _ _ _ _ _ _ (h.2 (Int.not_le.mp fun z => q ((mv_ile hx mv_r0).mpr z))) S')
theorem ms_ceq {off : Int} {tg : Nat} (hd : decode cc pc = .ok (.if_icmp .eq off, 3)) (ht : (pc : Int) + off = (tg : Int)) : mv_Snd cc maxL ret own lvl pc (mo_ceq tg (pc + 3)) := by
  intro p l e s m args below meth c ad D cA K Q L st M H locs ls C hK hN h S k
  match st, h, S with
  | .inl y :: .inl x :: st', h, S =>
    have hy := S.2.2.2.2.2.1.hd
    have hx := S.2.2.2.2.2.1.tl.hd
    have S' : mv_St ad D cA maxL s.heap M L st' H locs ls := ⟨S.1, S.2.1, S.2.2.1, S.2.2.2.1, S.2.2.2.2.1, S.2.2.2.2.2.1.tl.tl, S.2.2.2.2.2.2⟩
    exact lv_icmp_eq C.1 C.2.1 hd ht (fun q => k _ _ _ _ _ _ _ (h.1 ((mv_ieq hx hy).mp q)) S') (fun q => k _ _ _ _ _ _ _ (h.2 (fun z => q ((mv_ieq hx hy).mpr z))) S')
theorem ms_cne {off : Int} {tg : Nat} (hd : decode cc pc = .ok (.if_icmp .ne off, 3)) (ht : (pc : Int) + off = (tg : Int)) : mv_Snd cc maxL ret own lvl pc (mo_cne tg (pc + 3)) := by
  intro p l e s m args below meth c ad D cA K Q L st M H locs ls C hK hN h S k
  match st, h, S with
  | .inl y :: .inl x :: st', h, S =>
    have hy := S.2.2.2.2.2.1.hd
    have hx := S.2.2.2.2.2.1.tl.hd
    have S' : mv_St ad D cA maxL s.heap M L st' H locs ls := ⟨S.1, S.2.1, S.2.2.1, S.2.2.2.1, S.2.2.2.2.1, S.2.2.2.2.2.1.tl.tl, S.2.2.2.2.2.2⟩
    exact lv_icmp_ne C.1 C.2.1 hd ht (fun q => k _ _ _ _ _ _ _ (h.1 (fun z => q ((mv_ieq hx hy).mpr z))) S') (fun q => k _ _ _ _ _ _ _ (h.2 ((mv_ieq hx hy).mp q)) S')
theorem ms_clt {off : Int} {tg : Nat} (hd : decode cc pc = .ok (.if_icmp .lt off, 3)) (ht : (pc : Int) + off = (tg : Int)) : mv_Snd cc maxL ret own lvl pc (mo_clt tg (pc + 3)) := by
  intro p l e s m args below meth c ad D cA K Q L st M H locs ls C hK hN h S k
  match st, h, S with
  | .inl y :: .inl x :: st', h, S =>
    have hy := S.2.2.2.2.2.1.hd
    have hx := S.2.2.2.2.2.1.tl.hd
    have S' : mv_St ad D cA maxL s.heap M L st' H locs ls := ⟨S.1, S.2.1, S.2.2.1, S.2.2.2.1, S.2.2.2.2.1, S.2.2.2.2.2.1.tl.tl, S.2.2.2.2.2.2⟩
    exact lv_icmp_lt C.1 C.2.1 hd ht (fun q => k _ _ _ _ _ _ _ (h.1 ((mv_ilt hx hy).mp q)) S') (fun q => k _ _ _ _ _ _ _ (h.2 (Int.not_lt.mp fun z => q ((mv_ilt hx hy).mpr z))) S')
theorem ms_cge {off : Int} {tg : Nat} (hd : decode cc pc = .ok (.if_icmp .ge off, 3)) (ht : (pc : Int) + off = (tg : Int)) : mv_Snd cc maxL ret own lvl pc (mo_cge tg (pc + 3)) := by
  intro p l e s m args below meth c ad D cA K Q L st M H locs ls C hK hN h S k
  match st, h, S with
  | .inl y :: .inl x :: st', h, S =>
    have hy := S.2.2.2.2.2.1.hd
    have hx := S.2.2.2.2.2.1.tl.hd
    have S' : mv_St ad D cA maxL s.heap M L st' H locs ls := ⟨S.1, S.2.1, S.2.2.1, S.2.2.2.1, S.2.2.2.2.1, S.2.2.2.2.2.1.tl.tl, S.2.2.2.2.2.2⟩
    exact lv_icmp_ge C.1 C.2.1 hd ht (fun q => k _ _ _ _ _ _ _ (h.1 ((mv_ile hy hx).mp q)) S') (fun q => k _ _ _ _ _ _ _ (h.2 (Int.not_le.mp fun z => q ((mv_ile hy hx).mpr z))) S')
theorem ms_cgt {off : Int} {tg : Nat} (hd : decode cc pc = .ok (.if_icmp .gt off, 3)) (ht : (pc : Int) + off = (tg : Int)) : mv_Snd cc maxL ret own lvl pc (mo_cgt tg (pc + 3)) := by
  intro p l e s m args below meth c ad D cA K Q L st M H locs ls C hK hN h S k
  match st, h, S with
  | .inl y :: .inl x :: st', h, S =>
    have hy := S.2.2.2.2.2.1.hd
    have hx := S.2.2.2.2.2.1.tl.hd
    have S' : mv_St ad D cA maxL s.heap M L st' H locs ls := ⟨S.1, S.2.1, S.2.2.1, S.2.2.2.1, S.2.2.2.2.1, S.2.2.2.2.2.1.tl.tl, S.2.2.2.2.2.2⟩
    exact lv_icmp_gt C.1 C.2.1 hd ht (fun q => k _ _ _ _ _ _ _ (h.1 ((mv_ilt hy hx).mp q)) S') (fun q => k _ _ _ _ _ _ _ (h.2 (Int.not_lt.mp fun z => q ((mv_ilt hy hx).mpr z))) S')
theorem ms_cle {off : Int} {tg : Nat} (hd : decode cc pc = .ok (.if_icmp .le off, 3)) (ht : (pc : Int) + off = (tg : Int)) : mv_Snd cc maxL ret own lvl pc (mo_cle tg (pc + 3)) := by
  intro p l e s m args below meth c ad D cA K Q L st M H locs ls C hK hN h S k
  match st, h, S with
  | .inl y :: .inl x :: st', h, S =>
    have hy := S.2.2.2.2.2.1.hd
    have hx := S.2.2.2.2.2.1.tl.hd
    have S' : mv_St ad D cA maxL s.heap M L st' H locs ls := ⟨S.1, S.2.1, S.2.2.1, S.2.2.2.1, S.2.2.2.2.1, S.2.2.2.2.2.1.tl.tl, S.2.2.2.2.2.2⟩
    exact lv_icmp_le C.1 C.2.1 hd ht (fun q => k _ _ _ _ _ _ _ (h.1 ((mv_ile hx hy).mp q)) S') (fun q => k _ _ _ _ _ _ _ (h.2 (Int.not_le.mp fun z => q ((mv_ile hx hy).mpr z))) S')
theorem mv_tsw_at : ∀ {lo : Int} {ts : List Nat} {x : Int} {k : Nat → Prop} {t : Nat}, mv_tsw lo ts x k → lo ≤ x → ts[(x - lo).toNat]? = some t → k t
  | lo, [], x, k, t, _, _, ht => by simp at ht
  | lo, t0 :: ts, x, k, t, h, hl, ht => by
    by_cases h0 : x = lo
    · subst h0
      simp at ht
      subst ht
      exact h.1 rfl
    · have e : (x - lo).toNat = (x - (lo + 1)).toNat + 1 := by omega
      rw [e, List.getElem?_cons_succ] at ht
      exact mv_tsw_at h.2 (by omega) ht
theorem ms_tsw {df lo hi : Int} {offs : Array Int} {len dfT : Nat} {tgs : List Nat} (hd : decode cc pc = .ok (.tableswitch df lo hi offs, len)) (hdf : (pc : Int) + df = (dfT : Int)) (hhi : hi = lo + (tgs.length : Int) - 1) (hlen : offs.size = tgs.length)
    (hto : offs.toList.map (fun o => (pc : Int) + o) = tgs.map (fun t : Nat => (t : Int))) : mv_Snd cc maxL ret own lvl pc (mo_tsw lo tgs dfT) := by
  intro p l e s m args below meth c ad D cA K Q L st M H locs ls C hK hN h S k
  match st, h, S with
  | .inl x :: st', h, S =>
    have hx : (Int32.ofInt x).toInt = x := mv_toInt S.2.2.2.2.2.1.hd
    have S' : mv_St ad D cA maxL s.heap M L st' H locs ls := ⟨S.1, S.2.1, S.2.2.1, S.2.2.2.1, S.2.2.2.2.1, S.2.2.2.2.2.1.tl, S.2.2.2.2.2.2⟩
    by_cases ho : x < lo ∨ lo + (tgs.length : Int) ≤ x
    · exact lv_tableOut C.1 C.2.1 hd (by rw [hx]; omega) hdf (k _ _ _ _ _ _ _ (h.1 ho) S')
    · have hlt : (x - lo).toNat < tgs.length := by omega
      have hlo : (x - lo).toNat < offs.toList.length := by simp; omega
      have hmap := congrArg (fun l => l[(x - lo).toNat]?) hto
      simp only [List.getElem?_map, List.getElem?_eq_getElem hlo, List.getElem?_eq_getElem hlt, Option.map_some, Option.some.injEq] at hmap
      refine lv_tableIn C.1 C.2.1 (tgt := tgs[(x - lo).toNat]) (off := offs.toList[(x - lo).toNat]) hd (by rw [hx]; omega) (by rw [hx]; omega) (by rw [hx, ← Array.getElem?_toList]; exact List.getElem?_eq_getElem hlo) hmap ?_
      exact k _ _ _ _ _ _ _ (mv_tsw_at h.2 (by omega) (List.getElem?_eq_getElem hlt)) S'
theorem ms_iret (hd : decode cc pc = .ok (.ireturn, 1)) : mv_Snd cc maxL (some .int) own lvl pc mo_iret := by
  intro p l e s m args below meth c ad D cA K Q L st M H locs ls C hK hN h S k
  match st, h, S with
  | [.inl x], h, S =>
    exact W.iret C.1 C.2.1 C.2.2.2.2.2.1 (fun t ht hW => ⟨⟨some (.inl x), M, rfl, h, fun w hw => by cases hw; exact S.2.2.2.2.2.1.hd, S.2.2.2.2.2.2, by rw [ht]; exact S.1⟩, S.2.2.1.F ht⟩) S.2.2.1.2.2 hd C.2.2.2.2.2.2
theorem ms_zret (hd : decode cc pc = .ok (.ireturn, 1)) : mv_Snd cc maxL (some .boolean) own lvl pc mo_zret := by
  intro p l e s m args below meth c ad D cA K Q L st M H locs ls C hK hN h S k
  match st, h, S with
  | [.inl x], h, S =>
    exact W.zret C.1 C.2.1 C.2.2.2.2.2.1 (by rcases h.1 with rfl | rfl <;> rfl) (fun t ht hW => ⟨⟨some (.inl x), M, rfl, h.2, fun w hw => by cases hw; exact S.2.2.2.2.2.1.hd, S.2.2.2.2.2.2, by rw [ht]; exact S.1⟩, S.2.2.1.F ht⟩) S.2.2.1.2.2 hd C.2.2.2.2.2.2
theorem ms_aret {n : String} (hd : decode cc pc = .ok (.areturn, 1)) : mv_Snd cc maxL (some (.object n)) own lvl pc mo_aret := by
  intro p l e s m args below meth c ad D cA K Q L st M H locs ls C hK hN h S k
  match st, h, S with
  | [.inr (t, j)], h, S =>
    exact W.aret C.1 C.2.1 C.2.2.2.2.2.1 (Or.inl ⟨n, rfl⟩) (Or.inr ⟨_, rfl⟩) (fun t' ht hW => ⟨⟨some (.inr (t, j)), M, rfl, h, fun w hw => by cases hw; exact S.2.2.2.2.2.1.hd, S.2.2.2.2.2.2, by rw [ht]; exact S.1⟩, S.2.2.1.F ht⟩) S.2.2.1.2.2 hd C.2.2.2.2.2.2
theorem ms_vret (hd : decode cc pc = .ok (.return_, 1)) : mv_Snd cc maxL none own lvl pc mo_vret := by
  intro p l e s m args below meth c ad D cA K Q L st M H locs ls C hK hN h S k
  match st, h, S with
  | [], h, S =>
    exact W.vret C.1 C.2.1 C.2.2.2.2.2.1 (fun t ht hW => ⟨⟨none, M, rfl, h, fun w hw => (by cases hw), S.2.2.2.2.2.2, by rw [ht]; exact S.1⟩, S.2.2.1.F ht⟩) S.2.2.1.2.2 hd C.2.2.2.2.2.2
end MVS
end
section
/-! The instructions that read and write the world, and the calls. -/
def mv_CI (C : Nat) (R : String) (T : u_T) (N : Nat) (ty : Nat → FieldType) : Prop :=
  C < 12 ∧ vwCl[C]? = some (R, T, N) ∧ (∀ w ∈ u_ws R T N, w ∈ mv_tb) ∧ (∀ k, k < N → parseFieldDescriptor (T k).2.2.1 = some (ty k)) ∧ (∀ a, a < N → ∀ b, b < N → a ≠ b → (T a).2.1 ≠ (T b).2.1) ∧ (mv_fd C).length = N
/-- the arrays of whole numbers, and their lengths -/
def mv_itab : List (Nat × Int) := [(14, 3), (15, 8), (20, 360), (22, 200), (23, 3), (24, 407), (28, 360), (29, 1200), (30, 6), (31, 6), (32, 6), (26, 2035), (25, 407), (27, 140), (19, 140)]
def mv_lk : List (Nat × Int) → Nat → (Int → Prop) → Prop
  | [], _, _ => False
  | (a, n) :: l, t, k => cond (Nat.beq t a) (k n) (mv_lk l t k)
theorem mv_cond {b : Bool} {p : Prop} (h : cond b p False) : b = true ∧ p := by
  cases b
  · exact h.elim
  · exact ⟨rfl, h⟩
theorem mv_cond2 {b : Bool} {p q : Prop} (h : cond b p q) : (b = true ∧ p) ∨ q := by
  cases b
  · exact Or.inr h
  · exact Or.inl ⟨rfl, h⟩
theorem mv_lk_at : ∀ {l : List (Nat × Int)} {t : Nat} {k : Int → Prop}, mv_lk l t k → ∃ n, (t, n) ∈ l ∧ k n
  | [], _, _, h => h.elim
  | (a, n) :: l, t, k, h => by
    rcases mv_cond2 h with ⟨hb, hk⟩ | hk
    · have hb := Nat.eq_of_beq_eq_true hb
      rw [hb]
      exact ⟨n, List.mem_cons_self, hk⟩
    · obtain ⟨n', h1, h2⟩ := mv_lk_at hk
      exact ⟨n', List.mem_cons_of_mem _ h1, h2⟩
theorem mv_itab_ok : ∀ x ∈ mv_itab, ¬ x.1 < 12 ∧ x.1 < 33 ∧ mv_rt x.1 = false ∧ mv_ac x.1 = 0 ∧ (mv_len x.1 : Int) = x.2 := by decide +kernel
theorem mv_lkI {t : Nat} {k : Int → Prop} (h : mv_lk mv_itab t k) : ¬ t < 12 ∧ t < 33 ∧ mv_rt t = false ∧ mv_ac t = 0 ∧ k (mv_len t : Int) := by
  obtain ⟨n, h1, h2⟩ := mv_lk_at h
  obtain ⟨a, b, c, d, e⟩ := mv_itab_ok _ h1
  exact ⟨a, b, c, d, by rw [e]; exact h2⟩
def mo_getr (C t2 : Nat) (g : Nat → Nat) (nx : Nat) : mv_O := fun K _ L st M => match st with
  | .inr (t, j) :: st' => cond (Nat.beq t C) (K nx L (.inr (t2, g j) :: st') M) False
  | _ => False
def mo_geti (C k nx : Nat) : mv_O := fun K _ L st M => match st with
  | .inr (t, j) :: st' => cond (Nat.beq t C) (K nx L (.inl (M.1 C j k) :: st') M) False
  | _ => False
def mo_puti (C k nx : Nat) : mv_O := fun K _ L st M => match st with
  | .inl x :: .inr (t, j) :: st' => cond (Nat.beq t C) (K nx L st' (mv_up M.1 C j k x, M.2)) False
  | _ => False
def mo_putz (C k nx : Nat) : mv_O := fun K _ L st M => match st with
  | .inl x :: .inr (t, j) :: st' => cond (Nat.beq t C) ((x = 0 ∨ x = 1) ∧ K nx L st' (mv_up M.1 C j k x, M.2)) False
  | _ => False
def mo_iald (nx : Nat) : mv_O := fun K _ L st M => match st with
  | .inl i :: .inr (t, j) :: st' => mv_lk mv_itab t (fun n => (0 ≤ i ∧ i < n) ∧ K nx L (.inl (M.1 t j i.toNat) :: st') M)
  | _ => False
def mo_iast (nx : Nat) : mv_O := fun K _ L st M => match st with
  | .inl x :: .inl i :: .inr (t, j) :: st' => mv_lk mv_itab t (fun n => (0 ≤ i ∧ i < n) ∧ K nx L st' (mv_up M.1 t j i.toNat x, M.2))
  | _ => False
def mo_zald (nx : Nat) : mv_O := fun K _ L st M => match st with
  | .inl i :: .inr (t, j) :: st' => cond (Nat.beq t 17) ((0 ≤ i ∧ i < 2) ∧ K nx L (.inl (M.1 17 j i.toNat) :: st') M) False
  | _ => False
def mo_zast (nx : Nat) : mv_O := fun K _ L st M => match st with
  | .inl x :: .inl i :: .inr (t, j) :: st' => cond (Nat.beq t 17) ((0 ≤ i ∧ i < 2) ∧ (x = 0 ∨ x = 1) ∧ K nx L st' (mv_up M.1 17 j i.toNat x, M.2)) False
  | _ => False
def mo_alen (nx : Nat) : mv_O := fun K _ L st M => match st with
  | .inr (t, _) :: st' => mv_lk mv_itab t (fun n => K nx L (.inl n :: st') M)
  | _ => False
def mo_aald (nx : Nat) : mv_O := fun K _ L st M => match st with
  | .inl i :: .inr (t, j) :: st' =>
    cond (Nat.beq t 12) ((0 ≤ i ∧ i < 6) ∧ K nx L (.inr (0, 6 * j + i.toNat) :: st') M)
      (cond (Nat.beq t 13) ((0 ≤ i ∧ i < 8) ∧ K nx L (.inr (5, 8 * j + i.toNat) :: st') M)
        (cond (Nat.beq t 21) ((0 ≤ i ∧ i < 6) ∧ K nx L (.inr (2, 6 * j + i.toNat) :: st') M)
          (cond (Nat.beq t 16) ((0 ≤ i ∧ i < 2) ∧ K nx L (.inr (1, 3 * j + 1 + i.toNat) :: st') M)
            (cond (Nat.beq t 18) ((0 ≤ i ∧ i < 5) ∧ K nx L (.inr (7, M.2 i.toNat) :: st') M) False))))
  | _ => False
def mo_aast (nx : Nat) : mv_O := fun K _ L st M => match st with
  | .inr (t2, v) :: .inl i :: .inr (t, _) :: st' => cond (Nat.beq t2 7) (cond (Nat.beq t 18) ((0 ≤ i ∧ i < 5) ∧ K nx L st' (M.1, mv_us M.2 i.toNat v)) False) False
  | _ => False
def mv_cp (f : Nat → Nat → Nat → Int) (t1 j1 sp t2 j2 dp n : Nat) : Nat → Nat → Nat → Int := fun a b c => if a = t2 ∧ b = j2 ∧ dp ≤ c ∧ c < dp + n then f t1 j1 (sp + (c - dp)) else f a b c
def mo_copy (nx : Nat) : mv_O := fun K _ L st M => match st with
  | .inl n :: .inl dp :: .inr (t2, j2) :: .inl sp :: [.inr (t1, j1)] => mv_lk mv_itab t1 (fun n1 => mv_lk mv_itab t2 (fun n2 =>
      (0 ≤ sp ∧ 0 ≤ dp ∧ 0 ≤ n ∧ sp + n ≤ n1 ∧ dp + n ≤ n2) ∧ K nx L [] (mv_cp M.1 t1 j1 sp.toNat t2 j2 dp.toNat n.toNat, M.2)))
  | _ => False
theorem mv_vin {i : Int} {n : Nat} (hr : -2147483648 ≤ i ∧ i ≤ 2147483647) (h : 0 ≤ i ∧ i < (n : Int)) : vp_in (Int32.ofInt i) n := vp_in_iff.mpr (by rw [mv_toInt hr]; exact h)
theorem mv_clamp {i : Int} (hr : -2147483648 ≤ i ∧ i ≤ 2147483647) : (Int32.ofInt i).toNatClampNeg = i.toNat := by
  show (Int32.ofInt i).toInt.toNat = i.toNat
  rw [mv_toInt hr]
theorem mv_Mok.up {M : mv_M} (h : mv_Mok M) {t j k : Nat} {x : Int} (hx : -2147483648 ≤ x ∧ x ≤ 2147483647) : mv_Mok (mv_up M.1 t j k x, M.2) := by
  refine ⟨fun a b c => ?_, h.2⟩
  show -2147483648 ≤ (if a = t ∧ b = j ∧ c = k then x else M.1 a b c) ∧ (if a = t ∧ b = j ∧ c = k then x else M.1 a b c) ≤ 2147483647
  by_cases q : a = t ∧ b = j ∧ c = k
  · rw [if_pos q]; exact hx
  · rw [if_neg q]; exact h.1 a b c
theorem mv_Mok.cp {M : mv_M} (h : mv_Mok M) {t1 j1 sp t2 j2 dp n : Nat} : mv_Mok (mv_cp M.1 t1 j1 sp t2 j2 dp n, M.2) := by
  refine ⟨fun a b c => ?_, h.2⟩
  show -2147483648 ≤ (if a = t2 ∧ b = j2 ∧ dp ≤ c ∧ c < dp + n then M.1 t1 j1 (sp + (c - dp)) else M.1 a b c) ∧ (if a = t2 ∧ b = j2 ∧ dp ≤ c ∧ c < dp + n then M.1 t1 j1 (sp + (c - dp)) else M.1 a b c) ≤ 2147483647
  by_cases q : a = t2 ∧ b = j2 ∧ dp ≤ c ∧ c < dp + n
  · rw [if_pos q]; exact h.1 _ _ _
  · rw [if_neg q]; exact h.1 a b c
section MVH
variable {cc : ByteArray} {maxL : Nat} {ret : Option FieldType} {own : String} {lvl pc : Nat}
theorem ms_getr {idx C k N t2 a b : Nat} {R : String} {T : u_T} {ty : Nat → FieldType} {g : Nat → Nat} (hd : decode cc pc = .ok (.getfield idx, 3)) (hI : mv_CI C R T N ty) (hk : k < N) (hf : (mv_fd C)[k]? = some (some (t2, a, b))) (hg : ∀ j, g j = a * j + b)
    (hw : Cond.fieldLink own idx (T k).1 (T k).2.1 (T k).2.2.1 ∈ mv_tb) (hc : ∀ j, j < mv_cnt C → a * j + b < mv_cnt t2) (ht2 : t2 < 33) : mv_Snd cc maxL ret own lvl pc (mo_getr C t2 g (pc + 3)) := by
  intro p l e s m args below meth c ad D cA K Q L st M H locs ls X hK hN h S kk
  match st, h, S with
  | .inr (t, j) :: st', hh, SS =>
    dsimp only [mo_getr] at hh
    replace hh := mv_cond hh
    have hb := hh.1
    replace hh := hh.2
    have hb := Nat.eq_of_beq_eq_true hb
    subst hb
    obtain ⟨hj1, hj2⟩ := SS.2.2.2.2.2.1.hd
    obtain ⟨q0, hq, -⟩ := mv_ws_get SS.2.1 (mv_IX_mem hj1 hj2)
    rw [mv_cell_obj hI.1] at hq
    refine va_get X.1 X.2.1 X.2.2.2.2.1 hI.2.2.1 X.2.2.2.1 hK SS.1 q0 hq hI.2.1 k hk (X.2.2.2.2.1 _ hw) (fun _ z => z) (mv_fs_at hf) hd ?_
    rw [show mv_fv ad M t j k (some (t2, a, b)) = mv_tr ad (.inr (t2, g j)) from by rw [hg]; rfl]
    exact kk _ _ (.inr (t2, g j) :: st') _ _ _ _ hh ⟨SS.1, SS.2.1, SS.2.2.1, SS.2.2.2.1, SS.2.2.2.2.1, SS.2.2.2.2.2.1.tl.cons (show _ ∧ _ from ⟨ht2, by rw [hg]; exact hc j hj2⟩), SS.2.2.2.2.2.2⟩
theorem ms_geti {idx C k N : Nat} {R : String} {T : u_T} {ty : Nat → FieldType} (hd : decode cc pc = .ok (.getfield idx, 3)) (hI : mv_CI C R T N ty) (hk : k < N) (hf : (mv_fd C)[k]? = some none)
    (hw : Cond.fieldLink own idx (T k).1 (T k).2.1 (T k).2.2.1 ∈ mv_tb) : mv_Snd cc maxL ret own lvl pc (mo_geti C k (pc + 3)) := by
  intro p l e s m args below meth c ad D cA K Q L st M H locs ls X hK hN h S kk
  match st, h, S with
  | .inr (t, j) :: st', hh, SS =>
    dsimp only [mo_geti] at hh
    replace hh := mv_cond hh
    have hb := hh.1
    replace hh := hh.2
    have hb := Nat.eq_of_beq_eq_true hb
    subst hb
    obtain ⟨hj1, hj2⟩ := SS.2.2.2.2.2.1.hd
    obtain ⟨q0, hq, -⟩ := mv_ws_get SS.2.1 (mv_IX_mem hj1 hj2)
    rw [mv_cell_obj hI.1] at hq
    refine va_get X.1 X.2.1 X.2.2.2.2.1 hI.2.2.1 X.2.2.2.1 hK SS.1 q0 hq hI.2.1 k hk (X.2.2.2.2.1 _ hw) (fun _ z => z) (mv_fs_at hf) hd ?_
    exact kk _ _ (.inl (M.1 t j k) :: st') _ _ _ _ hh ⟨SS.1, SS.2.1, SS.2.2.1, SS.2.2.2.1, SS.2.2.2.2.1, SS.2.2.2.2.2.1.tl.cons (SS.2.2.2.2.2.2.1 t j k), SS.2.2.2.2.2.2⟩
theorem ms_puti {idx C k N : Nat} {R : String} {T : u_T} {ty : Nat → FieldType} (hd : decode cc pc = .ok (.putfield idx, 3)) (hI : mv_CI C R T N ty) (hk : k < N) (hf : (mv_fd C)[k]? = some none)
    (hw : Cond.fieldLink own idx (T k).1 (T k).2.1 (T k).2.2.1 ∈ mv_tb) (hfin : (T k).2.2.2 = false) (hty : parseFieldDescriptor (T k).2.2.1 = some .int) : mv_Snd cc maxL ret own lvl pc (mo_puti C k (pc + 3)) := by
  intro p l e s m args below meth c ad D cA K Q L st M H locs ls X hK hN h S kk
  match st, h, S with
  | .inl x :: .inr (t, j) :: st', hh, SS =>
    dsimp only [mo_puti] at hh
    replace hh := mv_cond hh
    have hb := hh.1
    replace hh := hh.2
    have hb := Nat.eq_of_beq_eq_true hb
    subst hb
    obtain ⟨hj1, hj2⟩ := SS.2.2.2.2.2.1.tl.hd
    obtain ⟨q0, hq, hset⟩ := mv_ws_get SS.2.1 (mv_IX_mem hj1 hj2)
    have hset := hset (mv_up M.1 t j k x, M.2) (fun _ _ _ z => mv_cell_up z)
    rw [mv_cell_obj hI.1, ← mv_fs_put hf] at hset
    rw [mv_cell_obj hI.1] at hq
    refine va_put X.1 X.2.1 X.2.2.2.2.1 hI.2.2.1 ty hI.2.2.2.1 hI.2.2.2.2.1 X.2.2.2.1 hK SS.1 SS.2.1 SS.2.2.1 q0 hq hI.2.1 k hk (X.2.2.2.2.1 _ hw) (fun _ z => z) hfin hty (v := .int (Int32.ofInt x)) rfl rfl (by rw [mv_fs_len]; exact (List.getElem?_eq_some_iff.mp hf).1) hd (fun H1 locs1 hP1 hD1 hS1 => ?_)
    rw [hset] at hP1 hD1
    exact kk _ _ st' _ _ _ _ hh ⟨hP1, hD1, hS1, SS.2.2.2.1, SS.2.2.2.2.1, SS.2.2.2.2.2.1.tl.tl, SS.2.2.2.2.2.2.up SS.2.2.2.2.2.1.hd⟩
theorem ms_putz {idx C k N : Nat} {R : String} {T : u_T} {ty : Nat → FieldType} (hd : decode cc pc = .ok (.putfield idx, 3)) (hI : mv_CI C R T N ty) (hk : k < N) (hf : (mv_fd C)[k]? = some none)
    (hw : Cond.fieldLink own idx (T k).1 (T k).2.1 (T k).2.2.1 ∈ mv_tb) (hfin : (T k).2.2.2 = false) (hty : parseFieldDescriptor (T k).2.2.1 = some .boolean) : mv_Snd cc maxL ret own lvl pc (mo_putz C k (pc + 3)) := by
  intro p l e s m args below meth c ad D cA K Q L st M H locs ls X hK hN h S kk
  match st, h, S with
  | .inl x :: .inr (t, j) :: st', hh, SS =>
    dsimp only [mo_putz] at hh
    replace hh := mv_cond hh
    have hb := hh.1
    have hx := hh.2.1
    replace hh := hh.2.2
    have hb := Nat.eq_of_beq_eq_true hb
    subst hb
    obtain ⟨hj1, hj2⟩ := SS.2.2.2.2.2.1.tl.hd
    obtain ⟨q0, hq, hset⟩ := mv_ws_get SS.2.1 (mv_IX_mem hj1 hj2)
    have hset := hset (mv_up M.1 t j k x, M.2) (fun _ _ _ z => mv_cell_up z)
    rw [mv_cell_obj hI.1, ← mv_fs_put hf] at hset
    rw [mv_cell_obj hI.1] at hq
    refine va_put X.1 X.2.1 X.2.2.2.2.1 hI.2.2.1 ty hI.2.2.2.1 hI.2.2.2.2.1 X.2.2.2.1 hK SS.1 SS.2.1 SS.2.2.1 q0 hq hI.2.1 k hk (X.2.2.2.2.1 _ hw) (fun _ z => z) hfin hty (v := .int (Int32.ofInt x)) (by rcases hx with rfl | rfl <;> rfl) (by rcases hx with rfl | rfl <;> rfl) (by rw [mv_fs_len]; exact (List.getElem?_eq_some_iff.mp hf).1) hd (fun H1 locs1 hP1 hD1 hS1 => ?_)
    rw [hset] at hP1 hD1
    exact kk _ _ st' _ _ _ _ hh ⟨hP1, hD1, hS1, SS.2.2.2.1, SS.2.2.2.2.1, SS.2.2.2.2.2.1.tl.tl, SS.2.2.2.2.2.2.up SS.2.2.2.2.2.1.hd⟩
theorem mv_arr_up {M : mv_M} {t j i : Nat} {x : Int} : upd (fun q => Int32.ofInt (M.1 t j q)) i (Int32.ofInt x) = fun q => Int32.ofInt (mv_up M.1 t j i x t j q) := by
  funext q
  by_cases hq : q = i
  · subst hq; simp [upd, mv_up]
  · simp [upd, mv_up, hq]
theorem ms_iald (hd : decode cc pc = .ok (.iaload, 1)) : mv_Snd cc maxL ret own lvl pc (mo_iald (pc + 1)) := by
  intro p l e s m args below meth c ad D cA K Q L st M H locs ls X hK hN h S kk
  match st, h, S with
  | .inl i :: .inr (t, j) :: st', hh, SS =>
    dsimp only [mo_iald] at hh
    obtain ⟨h12, h33, hrt, hac, hin, hh⟩ := mv_lkI hh
    obtain ⟨hj1, hj2⟩ := SS.2.2.2.2.2.1.tl.hd
    obtain ⟨q0, hq, -⟩ := mv_ws_get SS.2.1 (mv_IX_mem hj1 hj2)
    rw [mv_cell_int h12 hrt, hac] at hq
    refine va_iald X.1 X.2.1 hK SS.1 q0 0 hq (mv_tys_at cA (by omega)) (mv_vin SS.2.2.2.2.2.1.hd hin) hd ?_
    rw [mv_clamp SS.2.2.2.2.2.1.hd]
    exact kk _ _ (.inl (M.1 t j i.toNat) :: st') _ _ _ _ hh ⟨SS.1, SS.2.1, SS.2.2.1, SS.2.2.2.1, SS.2.2.2.2.1, SS.2.2.2.2.2.1.tl.tl.cons (SS.2.2.2.2.2.2.1 t j _), SS.2.2.2.2.2.2⟩
theorem ms_iast (hd : decode cc pc = .ok (.iastore, 1)) : mv_Snd cc maxL ret own lvl pc (mo_iast (pc + 1)) := by
  intro p l e s m args below meth c ad D cA K Q L st M H locs ls X hK hN h S kk
  match st, h, S with
  | .inl x :: .inl i :: .inr (t, j) :: st', hh, SS =>
    dsimp only [mo_iast] at hh
    obtain ⟨h12, h33, hrt, hac, hin, hh⟩ := mv_lkI hh
    obtain ⟨hj1, hj2⟩ := SS.2.2.2.2.2.1.tl.tl.hd
    obtain ⟨q0, hq, hset⟩ := mv_ws_get SS.2.1 (mv_IX_mem hj1 hj2)
    have hset := hset (mv_up M.1 t j i.toNat x, M.2) (fun _ _ _ z => mv_cell_up z)
    rw [mv_cell_int h12 hrt, hac, ← mv_arr_up] at hset
    rw [mv_cell_int h12 hrt, hac] at hq
    refine va_iast X.1 X.2.1 hK SS.1 SS.2.1 SS.2.2.1 q0 0 hq (mv_tys_at cA (by omega)) (mv_vin SS.2.2.2.2.2.1.tl.hd hin) hd (fun H1 locs1 hP1 hD1 hS1 => ?_)
    rw [mv_clamp SS.2.2.2.2.2.1.tl.hd, hset] at hP1 hD1
    exact kk _ _ st' _ _ _ _ hh ⟨hP1, hD1, hS1, SS.2.2.2.1, SS.2.2.2.2.1, SS.2.2.2.2.2.1.tl.tl.tl, SS.2.2.2.2.2.2.up SS.2.2.2.2.2.1.hd⟩
theorem ms_zald (hd : decode cc pc = .ok (.baload, 1)) : mv_Snd cc maxL ret own lvl pc (mo_zald (pc + 1)) := by
  intro p l e s m args below meth c ad D cA K Q L st M H locs ls X hK hN h S kk
  match st, h, S with
  | .inl i :: .inr (t, j) :: st', hh, SS =>
    dsimp only [mo_zald] at hh
    replace hh := mv_cond hh
    have hb := hh.1
    have hin := hh.2.1
    replace hh := hh.2.2
    have hb := Nat.eq_of_beq_eq_true hb
    subst hb
    obtain ⟨hj1, hj2⟩ := SS.2.2.2.2.2.1.tl.hd
    obtain ⟨q0, hq, -⟩ := mv_ws_get SS.2.1 (mv_IX_mem hj1 hj2)
    rw [mv_cell_int (by decide) (by decide)] at hq
    refine va_zald X.1 X.2.1 hK SS.1 q0 1 hq (mv_tys_at cA (by omega)) (mv_vin SS.2.2.2.2.2.1.hd hin) hd ?_
    rw [mv_clamp SS.2.2.2.2.2.1.hd]
    exact kk _ _ (.inl (M.1 17 j i.toNat) :: st') _ _ _ _ hh ⟨SS.1, SS.2.1, SS.2.2.1, SS.2.2.2.1, SS.2.2.2.2.1, SS.2.2.2.2.2.1.tl.tl.cons (SS.2.2.2.2.2.2.1 17 j _), SS.2.2.2.2.2.2⟩
theorem ms_zast (hd : decode cc pc = .ok (.bastore, 1)) : mv_Snd cc maxL ret own lvl pc (mo_zast (pc + 1)) := by
  intro p l e s m args below meth c ad D cA K Q L st M H locs ls X hK hN h S kk
  match st, h, S with
  | .inl x :: .inl i :: .inr (t, j) :: st', hh, SS =>
    dsimp only [mo_zast] at hh
    replace hh := mv_cond hh
    have hb := hh.1
    have hin := hh.2.1
    have hx := hh.2.2.1
    replace hh := hh.2.2.2
    have hb := Nat.eq_of_beq_eq_true hb
    subst hb
    obtain ⟨hj1, hj2⟩ := SS.2.2.2.2.2.1.tl.tl.hd
    obtain ⟨q0, hq, hset⟩ := mv_ws_get SS.2.1 (mv_IX_mem hj1 hj2)
    have hset := hset (mv_up M.1 17 j i.toNat x, M.2) (fun _ _ _ z => mv_cell_up z)
    rw [mv_cell_int (by decide) (by decide), ← mv_arr_up] at hset
    rw [mv_cell_int (by decide) (by decide)] at hq
    refine va_zast X.1 X.2.1 hK SS.1 SS.2.1 SS.2.2.1 q0 1 hq (mv_tys_at cA (by omega)) (mv_vin SS.2.2.2.2.2.1.tl.hd hin) hd (fun H1 locs1 hP1 hD1 hS1 => ?_)
    have hnar : vp_nar .boolean (Int32.ofInt x) = Int32.ofInt x := by rcases hx with rfl | rfl <;> rfl
    rw [hnar, mv_clamp SS.2.2.2.2.2.1.tl.hd, hset] at hP1 hD1
    exact kk _ _ st' _ _ _ _ hh ⟨hP1, hD1, hS1, SS.2.2.2.1, SS.2.2.2.2.1, SS.2.2.2.2.2.1.tl.tl.tl, SS.2.2.2.2.2.2.up SS.2.2.2.2.2.1.hd⟩
theorem ms_alen (hd : decode cc pc = .ok (.arraylength, 1)) : mv_Snd cc maxL ret own lvl pc (mo_alen (pc + 1)) := by
  intro p l e s m args below meth c ad D cA K Q L st M H locs ls X hK hN h S kk
  match st, h, S with
  | .inr (t, j) :: st', hh, SS =>
    dsimp only [mo_alen] at hh
    obtain ⟨h12, h33, hrt, hac, hh⟩ := mv_lkI hh
    obtain ⟨hj1, hj2⟩ := SS.2.2.2.2.2.1.hd
    obtain ⟨q0, hq, -⟩ := mv_ws_get SS.2.1 (mv_IX_mem hj1 hj2)
    rw [mv_cell_int h12 hrt, hac] at hq
    have hle : ∀ t, t < 33 → mv_len t ≤ 2035 := by decide +kernel
    have hl := hle t h33
    refine va_alen X.1 X.2.1 hK SS.1 q0 0 hq (mv_tys_at cA (by omega)) (v := Int32.ofInt (mv_len t : Int)) rfl hd ?_
    exact kk _ _ (.inl (mv_len t : Int) :: st') _ _ _ _ hh ⟨SS.1, SS.2.1, SS.2.2.1, SS.2.2.2.1, SS.2.2.2.2.1, SS.2.2.2.2.2.1.tl.cons (show _ ∧ _ from ⟨by omega, by omega⟩), SS.2.2.2.2.2.2⟩
theorem mv_aald_at {p l e s m args below meth c} {ad : Nat → Nat → Nat} {D : va_G} {cA : Nat → ClassId} {R : Room} {Qm : State → Prop} {L : mv_L} {st : List mv_V} {M : mv_M} {H : Heap} {locs : List Loc} {ls : Array Slot} {i : Int} {t j : Nat}
    (hd : decode cc pc = .ok (.aaload, 1)) (X : mv_Cx cc maxL ret own p s m args meth c) (hK : va_K D vwCl (mv_tys cA) s) (S : mv_St ad D cA maxL s.heap M L (.inl i :: .inr (t, j) :: st) H locs ls) (h12 : ¬ t < 12) (hrt : mv_rt t = true) (hac : mv_ac t < 7) {C : String} (hat : mv_at (mv_ac t) = .object C) (hin : 0 ≤ i ∧ i < (mv_len t : Int))
    (kk : W p l e R s m args below meth c H locs 0 0 Qm (F0 m (pc + 1) ls (.ref (ad (mv_et t) (mv_ei M t j i.toNat)) :: st.map (mv_tr ad)))) : W p l e R s m args below meth c H locs 0 0 Qm (F0 m pc ls ((.inl i :: .inr (t, j) :: st : List mv_V).map (mv_tr ad))) := by
  obtain ⟨hj1, hj2⟩ := S.2.2.2.2.2.1.tl.hd
  obtain ⟨q0, hq, -⟩ := mv_ws_get S.2.1 (mv_IX_mem hj1 hj2)
  rw [mv_cell_ref h12 hrt] at hq
  refine va_aldq (C := C) X.1 X.2.1 hK S.1 q0 (mv_ac t) hq (by rw [mv_tys_at cA hac, hat]) (mv_vin S.2.2.2.2.2.1.hd hin) hd ?_
  rw [mv_clamp S.2.2.2.2.2.1.hd]
  exact kk
theorem ms_aald (hd : decode cc pc = .ok (.aaload, 1)) : mv_Snd cc maxL ret own lvl pc (mo_aald (pc + 1)) := by
  intro p l e s m args below meth c ad D cA K Q L st M H locs ls X hK hN h S kk
  match st, h, S with
  | .inl i :: .inr (t, j) :: st', hh, SS =>
    dsimp only [mo_aald] at hh
    obtain ⟨hj1, hj2⟩ := SS.2.2.2.2.2.1.tl.hd
    rcases mv_cond2 hh with h2 | g1
    · have hb := Nat.eq_of_beq_eq_true h2.1
      have hin := h2.2.1
      subst hb
      refine mv_aald_at hd X hK SS (by decide) (by decide) (by decide) rfl hin ?_
      exact kk _ _ (.inr (0, 6 * j + i.toNat) :: st') _ _ _ _ h2.2.2 ⟨SS.1, SS.2.1, SS.2.2.1, SS.2.2.2.1, SS.2.2.2.2.1, SS.2.2.2.2.2.1.tl.tl.cons (show _ ∧ _ from ⟨by decide, by have h2 : j < 20 := hj2; show _ < 120; omega⟩), SS.2.2.2.2.2.2⟩
    rcases mv_cond2 g1 with h2 | g2
    · have hb := Nat.eq_of_beq_eq_true h2.1
      have hin := h2.2.1
      subst hb
      refine mv_aald_at hd X hK SS (by decide) (by decide) (by decide) rfl hin ?_
      exact kk _ _ (.inr (5, 8 * j + i.toNat) :: st') _ _ _ _ h2.2.2 ⟨SS.1, SS.2.1, SS.2.2.1, SS.2.2.2.1, SS.2.2.2.2.1, SS.2.2.2.2.2.1.tl.tl.cons (show _ ∧ _ from ⟨by decide, by have h2 : j < 20 := hj2; show _ < 160; omega⟩), SS.2.2.2.2.2.2⟩
    rcases mv_cond2 g2 with h2 | g3
    · have hb := Nat.eq_of_beq_eq_true h2.1
      have hin := h2.2.1
      subst hb
      refine mv_aald_at hd X hK SS (by decide) (by decide) (by decide) rfl hin ?_
      exact kk _ _ (.inr (2, 6 * j + i.toNat) :: st') _ _ _ _ h2.2.2 ⟨SS.1, SS.2.1, SS.2.2.1, SS.2.2.2.1, SS.2.2.2.2.1, SS.2.2.2.2.2.1.tl.tl.cons (show _ ∧ _ from ⟨by decide, by have h2 : j < 3 := hj2; show _ < 18; omega⟩), SS.2.2.2.2.2.2⟩
    rcases mv_cond2 g3 with h2 | g4
    · have hb := Nat.eq_of_beq_eq_true h2.1
      have hin := h2.2.1
      subst hb
      refine mv_aald_at hd X hK SS (by decide) (by decide) (by decide) rfl hin ?_
      exact kk _ _ (.inr (1, 3 * j + 1 + i.toNat) :: st') _ _ _ _ h2.2.2 ⟨SS.1, SS.2.1, SS.2.2.1, SS.2.2.2.1, SS.2.2.2.2.1, SS.2.2.2.2.2.1.tl.tl.cons (show _ ∧ _ from ⟨by decide, by have h2 : j < 6 := hj2; show _ < 20; omega⟩), SS.2.2.2.2.2.2⟩
    replace hh := mv_cond g4
    have hb := hh.1
    have hin := hh.2.1
    replace hh := hh.2.2
    have hb := Nat.eq_of_beq_eq_true hb
    subst hb
    refine mv_aald_at hd X hK SS (by decide) (by decide) (by decide) rfl hin ?_
    exact kk _ _ (.inr (7, M.2 i.toNat) :: st') _ _ _ _ hh ⟨SS.1, SS.2.1, SS.2.2.1, SS.2.2.2.1, SS.2.2.2.2.1, SS.2.2.2.2.2.1.tl.tl.cons (show _ ∧ _ from ⟨by decide, SS.2.2.2.2.2.2.2 _⟩), SS.2.2.2.2.2.2⟩
theorem mv_cell_us {ad : Nat → Nat → Nat} {cA : Nat → ClassId} {M : mv_M} {i v t' j' : Nat} (h : ¬ t' = 18) : mv_cell ad cA (M.1, mv_us M.2 i v) t' j' = mv_cell ad cA M t' j' := by
  have e2 : mv_fs ad (M.1, mv_us M.2 i v) t' j' = mv_fs ad M t' j' := rfl
  have e3 : ∀ q, mv_ei (M.1, mv_us M.2 i v) t' j' q = mv_ei M t' j' q := by
    intro q
    have : Nat.beq t' 18 = false := by
      cases hb : Nat.beq t' 18 with
      | false => rfl
      | true => exact absurd (Nat.eq_of_beq_eq_true hb) h
    simp [mv_ei, this]
  unfold mv_cell
  simp only [e2, e3]
theorem ms_aast (hd : decode cc pc = .ok (.aastore, 1)) : mv_Snd cc maxL ret own lvl pc (mo_aast (pc + 1)) := by
  intro p l e s m args below meth c ad D cA K Q L st M H locs ls X hK hN h S kk
  match st, h, S with
  | .inr (t2, v) :: .inl i :: .inr (t, j) :: st', hh, SS =>
    dsimp only [mo_aast] at hh
    replace hh := mv_cond hh
    have hb2 := hh.1
    replace hh := hh.2
    replace hh := mv_cond hh
    have hb := hh.1
    have hin := hh.2.1
    replace hh := hh.2.2
    have hb := Nat.eq_of_beq_eq_true hb
    have hb2 := Nat.eq_of_beq_eq_true hb2
    subst hb
    subst hb2
    obtain ⟨hj1, hj2⟩ := SS.2.2.2.2.2.1.tl.tl.hd
    obtain ⟨hv1, hv2⟩ := SS.2.2.2.2.2.1.hd
    have hj0 : j = 0 := by have h2 : j < 1 := hj2; omega
    subst hj0
    obtain ⟨q0, hq, hset⟩ := mv_ws_get SS.2.1 (mv_IX_mem hj1 hj2)
    obtain ⟨qk, hqk, -⟩ := mv_ws_get SS.2.1 (mv_IX_mem hv1 hv2)
    have hIX : ∀ j', (18, j') ∈ mv_IX → j' = 0 := fun j' hj' => by
      have h2 : j' < 1 := (mv_mem_IX hj').2
      omega
    have hset := hset (M.1, mv_us M.2 i.toNat v) (fun t' j' hm z => by
      by_cases h18 : t' = 18
      · subst h18
        exact absurd ⟨rfl, hIX j' hm⟩ z
      · exact mv_cell_us h18)
    have hup : va_up (fun q => some (ad 7 (M.2 q))) i.toNat (some (ad 7 v)) = fun q => some (ad 7 (mv_us M.2 i.toNat v q)) := by
      funext q
      by_cases hq2 : q = i.toNat
      · simp [va_up, mv_us, hq2]
      · simp [va_up, mv_us, hq2]
    have e1 : mv_cell ad cA (M.1, mv_us M.2 i.toNat v) 18 0 = .inl (cA 5, 5, .inr (.inr (.inr (.inr (fun q => some (ad 7 (mv_us M.2 i.toNat v q))))))) := rfl
    have e0 : mv_cell ad cA M 18 0 = .inl (cA 5, 5, .inr (.inr (.inr (.inr (fun q => some (ad 7 (M.2 q))))))) := rfl
    rw [e1, ← hup] at hset
    rw [e0] at hq
    rw [mv_cell_obj (by decide)] at hqk
    refine va_astq (r := (RX7, TX7, 3)) X.1 X.2.1 hK SS.1 SS.2.1 SS.2.2.1 q0 5 qk 7 hq (mv_tys_at cA (by omega)) hqk rfl (mv_vin SS.2.2.2.2.2.1.tl.hd hin) hd (fun H1 locs1 hP1 hD1 hS1 => ?_)
    rw [mv_clamp SS.2.2.2.2.2.1.tl.hd, hset] at hP1 hD1
    refine kk _ _ st' _ _ _ _ hh ⟨hP1, hD1, hS1, SS.2.2.2.1, SS.2.2.2.2.1, SS.2.2.2.2.2.1.tl.tl.tl, SS.2.2.2.2.2.2.1, fun q => ?_⟩
    show (if q = i.toNat then v else M.2 q) < 6
    by_cases hq2 : q = i.toNat
    · rw [if_pos hq2]; exact hv2
    · rw [if_neg hq2]; exact SS.2.2.2.2.2.2.2 q
theorem mv_arr_cp {M : mv_M} {t1 j1 sp t2 j2 dp n : Nat} : va_cpy (fun q => Int32.ofInt (M.1 t1 j1 q)) (fun q => Int32.ofInt (M.1 t2 j2 q)) sp dp n = fun q => Int32.ofInt (mv_cp M.1 t1 j1 sp t2 j2 dp n t2 j2 q) := by
  funext q
  by_cases h : dp ≤ q ∧ q < dp + n
  · simp [va_cpy, mv_cp, h]
  · simp [va_cpy, mv_cp, h]
theorem mv_cell_cp {ad : Nat → Nat → Nat} {cA : Nat → ClassId} {M : mv_M} {t1 j1 sp t2 j2 dp n t' j' : Nat} (h : ¬ (t' = t2 ∧ j' = j2)) : mv_cell ad cA (mv_cp M.1 t1 j1 sp t2 j2 dp n, M.2) t' j' = mv_cell ad cA M t' j' := by
  have e : ∀ i, mv_cp M.1 t1 j1 sp t2 j2 dp n t' j' i = M.1 t' j' i := fun i => if_neg (fun q => h ⟨q.1, q.2.1⟩)
  have e2 : mv_fs ad (mv_cp M.1 t1 j1 sp t2 j2 dp n, M.2) t' j' = mv_fs ad M t' j' := by
    unfold mv_fs
    congr 1
    funext i o
    cases o with
    | none => simp [mv_fv, e]
    | some o => rfl
  unfold mv_cell
  rw [e2]
  by_cases h1 : t' < 12
  · rw [if_pos h1, if_pos h1]
  · rw [if_neg h1, if_neg h1]
    by_cases h2 : mv_rt t' = true
    · rw [if_pos h2, if_pos h2]; rfl
    · rw [if_neg h2, if_neg h2]
      simp only [e]
theorem ms_copy {idx : Nat} (hd : decode cc pc = .ok (.invokestatic idx, 3)) (hw : Cond.methodLink own idx arraycopyName ∈ mv_tb) (hnat : Cond.native arraycopyName ∈ mv_tb) (hstat : Cond.static arraycopyName ∈ mv_tb) (hini : Cond.initialized "java/lang/System" ∈ mv_tb) : mv_Snd cc maxL ret own lvl pc (mo_copy (pc + 3)) := by
  intro p l e s m args below meth c ad D cA K Q L st M H locs ls X hK hN h S kk
  match st, h, S with
  | .inl n :: .inl dp :: .inr (t2, j2) :: .inl sp :: [.inr (t1, j1)], hh, SS =>
    dsimp only [mo_copy] at hh
    obtain ⟨a12, a33, art, aac, hh⟩ := mv_lkI hh
    obtain ⟨b12, b33, brt, bac, hb, hh⟩ := mv_lkI hh
    have vn := SS.2.2.2.2.2.1.hd
    have vd := SS.2.2.2.2.2.1.tl.hd
    have v2 := SS.2.2.2.2.2.1.tl.tl.hd
    have vs := SS.2.2.2.2.2.1.tl.tl.tl.hd
    have v1 := SS.2.2.2.2.2.1.tl.tl.tl.tl.hd
    obtain ⟨q0, hq0, -⟩ := mv_ws_get SS.2.1 (mv_IX_mem v1.1 v1.2)
    obtain ⟨q1, hq1, hset⟩ := mv_ws_get SS.2.1 (mv_IX_mem v2.1 v2.2)
    have hset := hset (mv_cp M.1 t1 j1 sp.toNat t2 j2 dp.toNat n.toNat, M.2) (fun _ _ _ z => mv_cell_cp z)
    rw [mv_cell_int b12 brt, bac, ← mv_arr_cp] at hset
    rw [mv_cell_int b12 brt, bac] at hq1
    rw [mv_cell_int a12 art, aac] at hq0
    have pos : ∀ {z : Int}, (-2147483648 ≤ z ∧ z ≤ 2147483647) → 0 ≤ z → ¬ Int32.ofInt z < 0 := fun hz h0 q => by
      have := (mv_ilt hz mv_r0).mp q
      omega
    obtain ⟨b1, b2, b3, b4, b5⟩ := hb
    refine va_copyi X.1 X.2.1 (by rw [X.2.2.1]; exact SS.2.2.2.1.1.1.symm) X.2.2.2.1 (X.2.2.2.2.1 _ hw) (X.2.2.2.2.1 _ hnat) (X.2.2.2.2.1 _ hstat) (X.2.2.2.2.1 _ hini) hK SS.1 SS.2.1 SS.2.2.1 q0 q1 0 0 hq0 hq1 (mv_tys_at cA (by omega)) (mv_tys_at cA (by omega)) rfl (pos vs b1) (pos vd b2) (pos vn b3)
      (by rw [mv_clamp vs, mv_clamp vn]; omega) (by rw [mv_clamp vd, mv_clamp vn]; omega) (fun _ _ => rfl) (Nat.le_add_left 1 lvl) (by show 0 + (7 + 11) ≤ 40 + 30 * lvl; omega) hd (fun H1 locs1 hP1 hD1 hS1 => ?_)
    rw [mv_clamp vs, mv_clamp vd, mv_clamp vn, hset] at hP1 hD1
    exact kk _ _ [] _ _ _ _ hh ⟨hP1, hD1, hS1, SS.2.2.2.1, SS.2.2.2.2.1, (fun _ z => by cases z), SS.2.2.2.2.2.2.cp⟩
def mv_Ev (lvl : Nat) (y : MethodName) (cc : ByteArray) (maxL : Nat) (ret : Option FieldType) (av : List mv_V) (M : mv_M) (Q : mv_R) : Prop :=
  ∀ (l : Launch) (ad : Nat → Nat → Nat) (D : va_G) (cA : Nat → ClassId), mv_Sok av → mv_Mok M →
    Met l y (Cond.code y cc maxL ret :: mv_tb) (mv_rm lvl) (fun a U => a = (av.map (mv_tr ad)).toArray ∧ va_P D vwCl (mv_ws ad cA M) U.heap ∧ va_D (mv_A ad) (mv_ws ad cA M) ∧ va_K D vwCl (mv_tys cA) U ∧ mv_N U) (mv_Qc ad D cA Q) 0 0 (mv_A ad)
end MVH
-- calls
def mv_pop : Nat → List mv_V → List mv_V → (List mv_V → List mv_V → Prop) → Prop
  | 0, st, acc, k => k acc st
  | n + 1, v :: st, acc, k => mv_pop n st (v :: acc) k
  | _ + 1, [], _, _ => False
theorem mv_pop_at : ∀ {n : Nat} {st acc : List mv_V} {k : List mv_V → List mv_V → Prop}, mv_pop n st acc k → ∃ as st', as.length = n ∧ st = as.reverse ++ st' ∧ k (as ++ acc) st'
  | 0, st, acc, k, h => ⟨[], st, rfl, rfl, h⟩
  | n + 1, [], _, _, h => h.elim
  | n + 1, v :: st, acc, k, h => by
    obtain ⟨as, st', h1, h2, h3⟩ := mv_pop_at (n := n) h
    exact ⟨as ++ [v], st', by simp [h1], by simp [h2], by simpa using h3⟩
def mv_push (K : mv_K) (nx : Nat) (L : mv_L) (st : List mv_V) : mv_R := fun v M => match v with
  | some x => K nx L (x :: st) M
  | none => K nx L st M
/-- a call of an object's method: n arguments behind the receiver, which is of class C -/
def mo_callV (lv : Nat) (y : MethodName) (bytes : ByteArray) (mxL : Nat) (rt : Option FieldType) (C n nx : Nat) : mv_O := fun K _ L st M => mv_pop n st [] (fun as st1 => match st1 with
  | .inr (t, j) :: st' => cond (Nat.ble st'.length 8) (cond (Nat.beq t C) (mv_Ev lv y bytes mxL rt (.inr (t, j) :: as) M (mv_push K nx L st')) False) False
  | _ => False)
def mo_callS (lv : Nat) (y : MethodName) (bytes : ByteArray) (mxL : Nat) (rt : Option FieldType) (n nx : Nat) : mv_O := fun K _ L st M => mv_pop n st [] (fun as st' =>
  cond (Nat.ble st'.length 8) (mv_Ev lv y bytes mxL rt as M (mv_push K nx L st')) False)
theorem mv_catsum (ad : Nat → Nat → Nat) : ∀ st : List mv_V, ((st.map (mv_tr ad)).map fun v => v.category).sum = st.length
  | [] => rfl
  | v :: st => by simp only [List.map_cons, List.sum_cons, mv_tr_cat, mv_catsum ad st, List.length_cons]; omega
def mv_Yk (y : MethodName) (bytes : ByteArray) (mxL : Nat) (rt : Option FieldType) (n : Nat) : Prop :=
  Cond.code y bytes mxL rt ∈ mv_tb ∧ Cond.initialized y.cls ∈ mv_tb ∧ (y.cls ≠ "java/lang/invoke/MethodHandle" ∧ y.cls ≠ "java/lang/invoke/VarHandle") ∧ (parseMethodDescriptor y.desc).map (fun d => d.parameters.length) = some n ∧ mxL ≤ 11
theorem mv_tb_good : ∀ w ∈ mv_tb, ((w.onTables && w.keeps) = true ∨ ∃ ty, w = .arrayClass ty) := fun w hw => good_of_word (List.mem_filter.mp hw).2
theorem mv_goodIn {y : MethodName} {bytes : ByteArray} {mxL : Nat} {rt : Option FieldType} (h : Cond.code y bytes mxL rt ∈ mv_tb) : GoodIn mv_tb (Cond.code y bytes mxL rt :: mv_tb) := by
  intro w hw
  rcases List.mem_cons.mp hw with rfl | hw
  · exact ⟨h, mv_tb_good _ h⟩
  · exact ⟨hw, mv_tb_good _ hw⟩
section MVC
variable {p : Program} {l : Launch} {e : Env} {R : Room} {s : State} {m : MethodId} {args : Array Value} {below : List Frame} {meth : Method} {c : Code} {H : Heap} {locs : List Loc} {Qm : State → Prop}
theorem mv_callW {ad : Nat → Nat → Nat} {D : va_G} {cA : Nat → ClassId} {Q : mv_R} {a : Array Value} {pc : Nat} {ls : Array Slot} {st0 rest : List Value} {H0 : Heap}
    (hr : va_Run p l e R s m args below meth c H locs 0 0 0 0 (F0 m pc ls st0) rest (mv_Qc ad D cA Q a) (mv_A ad)) (hS : va_S (mv_A ad) H0 H locs)
    (kk : ∀ (v : Option mv_V) (M' : mv_M) (H' : Heap) (locs' : List Loc), Q v M' → (∀ w, v = some w → mv_vok w) → mv_Mok M' → va_P D vwCl (mv_ws ad cA M') H' → va_S (mv_A ad) H0 H' locs' → W p l e R s m args below meth c H' locs' 0 0 Qm (F0 m (pc + 3) ls ((v.map (mv_tr ad)).toList ++ rest))) :
    W p l e R s m args below meth c H locs 0 0 Qm (F0 m pc ls st0) := by
  intro T hT X
  obtain ⟨v, st₀, t, T', L, h0, X', hL, e1, e2, ⟨⟨v', M', hv, hq, hvo, hMo, hP⟩, hz, hk⟩, st⟩ := hr T hT X
  cases hv
  rw [h0] at hz hk
  obtain ⟨t2, a1, b1⟩ := kk v' M' T'.heap (locs ++ L) hq hvo hMo (by rw [e1]; exact hP)
    ⟨Nat.le_trans hS.1 (by rw [e1]; exact hz), fun q h1 h2 => by rw [e1, hk q (Nat.lt_of_lt_of_le h1 hS.1) h2]; exact hS.2.1 q h1 h2, fun q hq => by
      rcases List.mem_append.mp hq with h | h
      · exact hS.2.2 q h
      · exact hL q h⟩ T' rfl X'
  exact ⟨t2, st t2 a1, b1⟩
end MVC
theorem mv_blind {ad : Nat → Nat → Nat} {D : va_G} {cA : Nat → ClassId} {M : mv_M} {av : List mv_V} : FrameBlind (fun a U => a = (av.map (mv_tr ad)).toArray ∧ va_P D vwCl (mv_ws ad cA M) U.heap ∧ va_D (mv_A ad) (mv_ws ad cA M) ∧ va_K D vwCl (mv_tys cA) U ∧ mv_N U) :=
  fun _ U g mk q => ⟨q.1, q.2.1, q.2.2.1, va_K.moved (u := U) (U := U.calling g mk _) (Vm.Alike.refl U.vm) q.2.2.2.1, mv_N.same (s := U) rfl q.2.2.2.2⟩
section MVD
variable {cc : ByteArray} {maxL : Nat} {ret : Option FieldType} {own : String} {lvl pc : Nat}
theorem mv_sok_app {as st : List mv_V} (h : mv_Sok (as.reverse ++ st)) : mv_Sok as ∧ mv_Sok st :=
  ⟨fun v hv => h v (List.mem_append_left _ (List.mem_reverse.mpr hv)), fun v hv => h v (List.mem_append_right _ hv)⟩
theorem mv_goes {p : Program} {l : Launch} {e : Env} {s : State} {m : MethodId} {args : Array Value} {below : List Frame} {meth : Method} {c : Code} {ad : Nat → Nat → Nat} {D : va_G} {cA : Nat → ClassId} {K : mv_K} {Qm : State → Prop} {L : mv_L} {st st' : List mv_V} {M : mv_M} {H : Heap} {locs : List Loc} {ls : Array Slot} {a : Array Value} {nx : Nat} {H0 : Heap}
    (hr : va_Run p l e (mv_rm lvl) s m args below meth c H locs 0 0 0 0 (F0 m pc ls (st.map (mv_tr ad))) (st'.map (mv_tr ad)) (mv_Qc ad D cA (mv_push K nx L st') a) (mv_A ad)) (hnx : nx = pc + 3) (S : mv_St ad D cA maxL H0 M L st H locs ls) (hst : mv_Sok st')
    (kk : ∀ (pc' : Nat) (L' : mv_L) (st' : List mv_V) (M' : mv_M) (H' : Heap) (locs' : List Loc) (ls' : Array Slot), K pc' L' st' M' → mv_St ad D cA maxL H0 M' L' st' H' locs' ls' → W p l e (mv_rm lvl) s m args below meth c H' locs' 0 0 Qm (F0 m pc' ls' (st'.map (mv_tr ad)))) :
    W p l e (mv_rm lvl) s m args below meth c H locs 0 0 Qm (F0 m pc ls (st.map (mv_tr ad))) := by
  subst hnx
  refine mv_callW hr S.2.2.1 (fun v M' H' locs' hQ hv hM hP hS => ?_)
  cases v with
  | none => exact kk _ _ _ _ _ _ _ hQ ⟨hP, mv_D_any S.2.1, hS, S.2.2.2.1, S.2.2.2.2.1, hst, hM⟩
  | some x => exact kk _ _ (x :: st') _ _ _ _ hQ ⟨hP, mv_D_any S.2.1, hS, S.2.2.2.1, S.2.2.2.2.1, hst.cons (hv x rfl), hM⟩
theorem ms_callV {idx lv n C : Nat} {y : MethodName} {bytes : ByteArray} {mxL : Nat} {rt : Option FieldType} {T : u_T} {N : Nat} {ty : Nat → FieldType} (hd : decode cc pc = .ok (.invokevirtual idx, 3)) (hl : Cond.methodLink own idx y ∈ mv_tb) (hin : Cond.instanceMethod y ∈ mv_tb) (hse : Cond.selects y.cls y y ∈ mv_tb) (hY : mv_Yk y bytes mxL rt n) (hI : mv_CI C y.cls T N ty) (hlv : lv < lvl) :
    mv_Snd cc maxL ret own lvl pc (mo_callV lv y bytes mxL rt C n (pc + 3)) := by
  intro p l e s m args below meth c ad D cA K Q L st M H locs ls X hK hN h S kk
  obtain ⟨as, st1, hn, hst, h⟩ := mv_pop_at h
  rw [List.append_nil] at h
  match st1, hst, h with
  | .inr (t, j) :: st', hst, hh =>
    have h1 := mv_cond hh
    have hlen := Nat.le_of_ble_eq_true h1.1
    have h2 := mv_cond h1.2
    have ht := Nat.eq_of_beq_eq_true h2.1
    have h3 := h2.2
    subst ht
    have hso := S.2.2.2.2.2.1
    rw [hst] at hso
    obtain ⟨ha, hb⟩ := mv_sok_app hso
    obtain ⟨q0, hq, -⟩ := mv_ws_get S.2.1 (mv_IX_mem hb.hd.1 hb.hd.2)
    rw [mv_cell_obj hI.1] at hq
    have hM := h3 l ad D cA (ha.cons hb.hd) S.2.2.2.2.2.2
    refine mv_goes (va_runV (Ts := mv_tb) (b := ad t j) (As := as.map (mv_tr ad)) (rest := st'.map (mv_tr ad)) (C := y.cls) (bytes := bytes) (maxL := mxL) (ret := rt) (n := n) (index := idx) ⟨X.1, X.2.1, X.2.2.1, X.2.2.2.1, X.2.2.2.2.1⟩ hM
      ⟨⟨rfl, rfl, by show lv + 1 + 1 ≤ lvl + 1; omega, by show 8 + (mxL + 11) + (40 + 30 * lv) ≤ 40 + 30 * lvl; have := hY.2.2.2.2; omega, pay_in X.2.2.2.2.1 (mv_goodIn hY.1), List.mem_cons_self, X.2.2.2.2.1 _ hY.1, X.2.2.2.2.1 _ hY.2.1, hY.2.2.1, fun sig hs => ?_, X.2.2.2.2.1 _ hl⟩, X.2.2.2.2.1 _ hin, X.2.2.2.2.1 _ hse⟩
      ⟨mv_blind, va_recv hK S.1 hI.2.1 hq, fun U hU hW => ⟨rfl, by rw [hU]; exact S.1, S.2.1, va_K.moved hW.alike hK, mv_N.warm hW hN⟩⟩ rfl (by simp [hn]) S.2.2.2.1.1.1 (by rw [hst]; simp [mv_tr]) (by show 2 * 0 + _ ≤ 8; rw [mv_catsum]; omega) hd ⟨Nat.zero_le _, Nat.zero_le _⟩) rfl S hb.tl kk
    have h2 := hY.2.2.2.1
    rw [hs] at h2
    exact (Option.some.inj h2).symm
theorem ms_callS {idx lv n : Nat} {y : MethodName} {bytes : ByteArray} {mxL : Nat} {rt : Option FieldType} (hd : decode cc pc = .ok (.invokestatic idx, 3)) (hl : Cond.methodLink own idx y ∈ mv_tb) (hstc : Cond.static y ∈ mv_tb) (hY : mv_Yk y bytes mxL rt n) (hlv : lv < lvl) :
    mv_Snd cc maxL ret own lvl pc (mo_callS lv y bytes mxL rt n (pc + 3)) := by
  intro p l e s m args below meth c ad D cA K Q L st M H locs ls X hK hN h S kk
  obtain ⟨as, st', hn, hst, h⟩ := mv_pop_at h
  rw [List.append_nil] at h
  replace h := mv_cond h
  have hlen := Nat.le_of_ble_eq_true h.1
  replace h := h.2
  have hso := S.2.2.2.2.2.1
  rw [hst] at hso
  obtain ⟨ha, hb⟩ := mv_sok_app hso
  have hM := h l ad D cA ha S.2.2.2.2.2.2
  refine mv_goes (va_runS (Ts := mv_tb) (As := as.map (mv_tr ad)) (rest := st'.map (mv_tr ad)) (bytes := bytes) (maxL := mxL) (ret := rt) (n := n) (index := idx) ⟨X.1, X.2.1, X.2.2.1, X.2.2.2.1, X.2.2.2.2.1⟩ hM
    ⟨⟨rfl, rfl, by show lv + 1 + 1 ≤ lvl + 1; omega, by show 8 + (mxL + 11) + (40 + 30 * lv) ≤ 40 + 30 * lvl; have := hY.2.2.2.2; omega, pay_in X.2.2.2.2.1 (mv_goodIn hY.1), List.mem_cons_self, X.2.2.2.2.1 _ hY.1, X.2.2.2.2.1 _ hY.2.1, hY.2.2.1, fun sig hs => ?_, X.2.2.2.2.1 _ hl⟩, X.2.2.2.2.1 _ hstc⟩
    ⟨mv_blind, fun U hU hW => ⟨rfl, by rw [hU]; exact S.1, S.2.1, va_K.moved hW.alike hK, mv_N.warm hW hN⟩⟩ rfl (by simp [hn]) S.2.2.2.1.1.1 (by rw [hst]; simp) (by show 2 * 0 + _ ≤ 8; rw [mv_catsum]; omega) hd ⟨Nat.zero_le _, Nat.zero_le _⟩) rfl S hb kk
  have h2 := hY.2.2.2.1
  rw [hs] at h2
  exact (Option.some.inj h2).symm
theorem ms_callSN {idx lv n : Nat} {y : MethodName} {bytes : ByteArray} {mxL : Nat} {rt : Option FieldType} (hd : decode cc pc = .ok (.invokestatic idx, 3)) (hl : (own, idx, y) ∈ mv_nest) (hstc : Cond.static y ∈ mv_tb) (hY : mv_Yk y bytes mxL rt n) (hlv : lv < lvl) :
    mv_Snd cc maxL ret own lvl pc (mo_callS lv y bytes mxL rt n (pc + 3)) := by
  intro p l e s m args below meth c ad D cA K Q L st M H locs ls X hK hN h S kk
  obtain ⟨as, st', hn, hst, h⟩ := mv_pop_at h
  rw [List.append_nil] at h
  replace h := mv_cond h
  have hlen := Nat.le_of_ble_eq_true h.1
  replace h := h.2
  have hso := S.2.2.2.2.2.1
  rw [hst] at hso
  obtain ⟨ha, hb⟩ := mv_sok_app hso
  have hM := h l ad D cA ha S.2.2.2.2.2.2
  refine mv_goes (va_runSN (Ts := mv_tb) (host := "QuoteGrid") (As := as.map (mv_tr ad)) (rest := st'.map (mv_tr ad)) (bytes := bytes) (maxL := mxL) (ret := rt) (n := n) (index := idx) ⟨X.1, X.2.1, X.2.2.1, X.2.2.2.1, X.2.2.2.2.1⟩ hM
    ⟨⟨⟨rfl, rfl, by show lv + 1 + 1 ≤ lvl + 1; omega, by show 8 + (mxL + 11) + (40 + 30 * lv) ≤ 40 + 30 * lvl; have := hY.2.2.2.2; omega, pay_in X.2.2.2.2.1 (mv_goodIn hY.1), List.mem_cons_self⟩, X.2.2.2.2.1 _ hY.1, X.2.2.2.2.1 _ hY.2.1, hY.2.2.1, fun sig hs => ?_, va_Nw.use rfl (hN _ hl)⟩, X.2.2.2.2.1 _ hstc, trivial⟩
    ⟨mv_blind, fun U hU hW => ⟨rfl, by rw [hU]; exact S.1, S.2.1, va_K.moved hW.alike hK, mv_N.warm hW hN⟩⟩ rfl (by simp [hn]) S.2.2.2.1.1.1 (by rw [hst]; simp) (by show 2 * 0 + _ ≤ 8; rw [mv_catsum]; omega) hd ⟨Nat.zero_le _, Nat.zero_le _⟩) rfl S hb kk
  have h2 := hY.2.2.2.1
  rw [hs] at h2
  exact (Option.some.inj h2).symm
end MVD
end
section
/-! Walking a method: from the list of its operators to its contract. -/
def mv_look : List (Nat × mv_O) → Nat → mv_O
  | [], _ => mo_no
  | (q, o) :: r, pc => bif Nat.beq q pc then o else mv_look r pc
def mv_in : List Nat → Nat → Bool
  | [], _ => false
  | a :: l, x => bif Nat.beq a x then true else mv_in l x
def mv_run (tab : List (Nat × mv_O)) (cut : List Nat) (K : mv_K) (Q : mv_R) : Nat → mv_K
  | 0, pc, L, st, M => K pc L st M
  | n + 1, pc, L, st, M => mv_look tab pc (fun pc' L' st' M' => bif mv_in cut pc' then K pc' L' st' M' else mv_run tab cut K Q n pc' L' st' M') Q L st M
def mv_J (cc : ByteArray) (maxL : Nat) (ret : Option FieldType) (own : String) (lvl : Nat) (Q : mv_R) : mv_K := fun pc L st M =>
  ∀ (p : Program) (l : Launch) (e : Env) (s : State) (m : MethodId) (args : Array Value) (below : List Frame) (meth : Method) (c : Code) (ad : Nat → Nat → Nat) (D : va_G) (cA : Nat → ClassId) (H : Heap) (locs : List Loc) (ls : Array Slot),
    mv_Cx cc maxL ret own p s m args meth c → va_K D vwCl (mv_tys cA) s → mv_N s → mv_St ad D cA maxL s.heap M L st H locs ls →
    W p l e (mv_rm lvl) s m args below meth c H locs 0 0 (MQ below (mv_Qc ad D cA Q) args s 0 0 (mv_A ad)) (F0 m pc ls (st.map (mv_tr ad)))
section MVR
variable {cc : ByteArray} {maxL : Nat} {ret : Option FieldType} {own : String} {lvl : Nat}
theorem mv_look_snd : ∀ {tab : List (Nat × mv_O)}, (∀ x ∈ tab, mv_Snd cc maxL ret own lvl x.1 x.2) → ∀ pc, mv_Snd cc maxL ret own lvl pc (mv_look tab pc)
  | [], _, _ => ms_no
  | (q, o) :: r, h, pc => by
    unfold mv_look
    cases hb : Nat.beq q pc with
    | true =>
      have := Nat.eq_of_beq_eq_true hb
      subst this
      exact h (q, o) List.mem_cons_self
    | false => exact mv_look_snd (fun x hx => h x (List.mem_cons_of_mem _ hx)) pc
theorem mv_run_J {tab : List (Nat × mv_O)} {cut : List Nat} {Q : mv_R} (ht : ∀ x ∈ tab, mv_Snd cc maxL ret own lvl x.1 x.2) :
    ∀ (n pc : Nat) (L : mv_L) (st : List mv_V) (M : mv_M), mv_run tab cut (mv_J cc maxL ret own lvl Q) Q n pc L st M → mv_J cc maxL ret own lvl Q pc L st M
  | 0, _, _, _, _, h => h
  | n + 1, pc, L, st, M, h => by
    intro p l e s m args below meth c ad D cA H locs ls X hK hN S
    refine mv_look_snd ht pc p l e s m args below meth c ad D cA _ Q L st M H locs ls X hK hN h S (fun pc' L' st' M' H' locs' ls' h' S' => ?_)
    cases hc : mv_in cut pc' with
    | true =>
      rw [hc] at h'
      exact h' p l e s m args below meth c ad D cA H' locs' ls' X hK hN S'
    | false =>
      rw [hc] at h'
      exact mv_run_J ht n pc' L' st' M' h' p l e s m args below meth c ad D cA H' locs' ls' X hK hN S'
def mv_pad : Nat → (mv_L → Prop) → Prop
  | 0, k => k []
  | n + 1, k => mv_pad n (fun L => k (none :: L))
def mv_ent : List mv_V → Nat → (mv_L → Prop) → Prop
  | [], n, k => mv_pad n k
  | v :: av, n + 1, k => mv_ent av n (fun L => k (some v :: L))
  | _ :: _, 0, _ => False
theorem mv_pad_at : ∀ {n : Nat} {k : mv_L → Prop}, mv_pad n k → k (List.replicate n none)
  | 0, _, h => h
  | n + 1, k, h => by
    have := mv_pad_at (n := n) h
    exact this
theorem mv_ent_at : ∀ {av : List mv_V} {n : Nat} {k : mv_L → Prop}, mv_ent av n k → av.length ≤ n ∧ k (av.map some ++ List.replicate (n - av.length) none)
  | [], n, k, h => ⟨Nat.zero_le _, mv_pad_at h⟩
  | v :: av, 0, _, h => h.elim
  | v :: av, n + 1, k, h => by
    obtain ⟨h1, h2⟩ := mv_ent_at (av := av) (n := n) h
    refine ⟨by simp; exact h1, ?_⟩
    simp only [List.map_cons, List.length_cons, Nat.reduceSubDiff, List.cons_append]
    exact h2
theorem mv_lgsl (ad : Nat → Nat → Nat) : ∀ av : List mv_V, lg_sl (av.map (mv_tr ad)) = av.map (fun v => .val (mv_tr ad v))
  | [] => rfl
  | v :: av => by
    have hc : ¬ (mv_tr ad v).category = 2 := by rw [mv_tr_cat]; decide
    show (if (mv_tr ad v).category = 2 then _ else _) ++ lg_sl (av.map (mv_tr ad)) = _
    rw [if_neg hc, mv_lgsl ad av]
    rfl
theorem mv_lvargs (ad : Nat → Nat → Nat) : ∀ (av : List mv_V) (i j : Nat) (v : mv_V), av[j]? = some v → (i + j, mv_tr ad v) ∈ lv_args i (av.map (mv_tr ad))
  | [], _, _, _, h => by simp at h
  | w :: av, i, 0, v, h => by
    simp at h
    subst h
    exact List.mem_cons_self
  | w :: av, i, j + 1, v, h => by
    rw [List.getElem?_cons_succ] at h
    have hc : ¬ (mv_tr ad w).category = 2 := by rw [mv_tr_cat]; decide
    show _ ∈ (i, mv_tr ad w) :: lv_args (if (mv_tr ad w).category = 2 then i + 2 else i + 1) (av.map (mv_tr ad))
    rw [if_neg hc]
    refine List.mem_cons_of_mem _ ?_
    have := mv_lvargs ad av (i + 1) j v h
    rwa [show i + 1 + j = i + (j + 1) by omega] at this
theorem mv_ev {y : MethodName} (hy : plainName y.cls = true) {av : List mv_V} {M : mv_M} {Q : mv_R} (h : mv_ent av maxL (fun L => mv_J cc maxL ret y.cls lvl Q 0 L [] M)) : mv_Ev lvl y cc maxL ret av M Q := by
  obtain ⟨hle, h⟩ := mv_ent_at h
  intro l ad D cA hso hM
  refine Met.ofW (cc := cc) (maxL := maxL) (ret := ret) hy rfl ?_
  intro p e s m args below meth c s₁ B hml hv
  obtain ⟨rfl, hP, hD, hK, hN⟩ := hv
  have hts := atoms_spec (ws := Cond.code y cc maxL ret :: mv_tb) B.pre
  have hlen : (lg_sl (av.map (mv_tr ad))).length = av.length := by rw [mv_lgsl]; simp
  have hl := lv_entry (av.map (mv_tr ad)) (n := maxL) (by rw [hlen]; exact hle)
  rw [lg_entry_eq]
  refine h p l e s m _ below meth c ad D cA s.heap [] _ ⟨B.exec, B.bytes, hml, findClass_of_methodNamed B.named, fun w hw => hts w (List.mem_cons_of_mem _ hw), B.returns, B.notSynchronized⟩ hK hN ⟨hP, hD, va_S.rf, ⟨⟨hl.1, hl.2.1, fun q hq => ?_⟩, by simp; omega⟩, ?_, (fun _ z => by cases z), hM⟩
  · obtain ⟨i, x⟩ := q
    obtain ⟨v, hv, rfl⟩ := mv_pr_mem.mp hq
    refine hl.2.2 _ ?_
    by_cases hi : i < av.length
    · rw [List.getElem?_append_left (by simp; exact hi), List.getElem?_map] at hv
      cases ha : av[i]? with
      | none => rw [ha] at hv; cases hv
      | some w =>
        rw [ha] at hv
        simp at hv
        subst hv
        have := mv_lvargs ad av 0 i w ha
        rwa [Nat.zero_add] at this
    · rw [List.getElem?_append_right (by simp; omega), List.getElem?_replicate] at hv
      split at hv <;> simp at hv
  · intro i v hv
    by_cases hi : i < av.length
    · rw [List.getElem?_append_left (by simp; exact hi), List.getElem?_map] at hv
      cases ha : av[i]? with
      | none => rw [ha] at hv; cases hv
      | some w =>
        rw [ha] at hv
        simp at hv
        subst hv
        exact hso w (List.mem_of_getElem? ha)
    · rw [List.getElem?_append_right (by simp; omega), List.getElem?_replicate] at hv
      split at hv <;> simp at hv
end MVR
/-- a contract may be read with a weaker end -/
theorem mv_Ev.mono {lvl : Nat} {y : MethodName} {cc : ByteArray} {maxL : Nat} {ret : Option FieldType} {av : List mv_V} {M : mv_M} {Q Q' : mv_R} (h : mv_Ev lvl y cc maxL ret av M Q) (hq : ∀ v M', Q v M' → Q' v M') : mv_Ev lvl y cc maxL ret av M Q' := by
  intro l ad D cA hs hM p e h1 h2 h3 s m args below h4 h5 h6 h7
  obtain ⟨n, o, g1, g2, g3, ⟨⟨v, M', e1, e2, e3⟩, e4⟩, g5⟩ := h l ad D cA hs hM p e h1 h2 h3 s m args below h4 h5 h6 h7
  exact ⟨n, o, g1, g2, g3, ⟨⟨v, M', e1, hq _ _ e2, e3⟩, e4⟩, g5⟩
theorem mv_fc {α : Type} {P : α → Prop} {x : α} {l : List α} (h : P x) (t : ∀ y ∈ l, P y) : ∀ y ∈ x :: l, P y := List.forall_mem_cons.mpr ⟨h, t⟩
theorem mv_fn {α : Type} {P : α → Prop} : ∀ y ∈ ([] : List α), P y := fun _ h => by cases h
theorem mv_w {w : Cond} (i : Nat) (h : lw_tbl[i]? = some w) (hg : goodWord w = true) : w ∈ mv_tb := List.mem_filter.mpr ⟨List.mem_of_getElem? h, hg⟩
end
section
/-! The tables' words that the operators need, each by its place. -/
theorem wd_0 : Cond.fieldLink RX0 15 "QuoteGrid$Article" "start" "I" ∈ mv_tb := mv_w 110 (by decide +kernel) (by decide +kernel)
theorem wd_1 : Cond.fieldLink RX0 19 "QuoteGrid$Article" "length" "I" ∈ mv_tb := mv_w 114 (by decide +kernel) (by decide +kernel)
theorem wd_2 : Cond.fieldLink RX0 22 "QuoteGrid$Article" "sentenceCount" "I" ∈ mv_tb := mv_w 120 (by decide +kernel) (by decide +kernel)
theorem wd_3 : Cond.fieldLink RX0 9 "QuoteGrid$Article" "lines" "[I" ∈ mv_tb := mv_w 107 (by decide +kernel) (by decide +kernel)
theorem wd_4 : Cond.methodLink RX0 25 arraycopyName ∈ mv_tb := mv_w 437 (by decide +kernel) (by decide +kernel)
theorem wd_5 : Cond.native arraycopyName ∈ mv_tb := mv_w 439 (by decide +kernel) (by decide +kernel)
theorem wd_6 : Cond.static arraycopyName ∈ mv_tb := mv_w 438 (by decide +kernel) (by decide +kernel)
theorem wd_7 : Cond.initialized "java/lang/System" ∈ mv_tb := mv_w 75 (by decide +kernel) (by decide +kernel)
theorem wd_8 : Cond.fieldLink RX1 29 "QuoteGrid$Content" "articleCount" "I" ∈ mv_tb := mv_w 206 (by decide +kernel) (by decide +kernel)
theorem wd_9 : Cond.fieldLink RX1 11 "QuoteGrid$Content" "articles" "[LQuoteGrid$Article;" ∈ mv_tb := mv_w 194 (by decide +kernel) (by decide +kernel)
theorem wd_10 : Cond.fieldLink RX1 63 "QuoteGrid$Article" "start" "I" ∈ mv_tb := mv_w 113 (by decide +kernel) (by decide +kernel)
theorem wd_11 : Cond.fieldLink RX1 57 "QuoteGrid$Article" "length" "I" ∈ mv_tb := mv_w 116 (by decide +kernel) (by decide +kernel)
theorem wd_12 : Cond.fieldLink RX1 60 "QuoteGrid$Article" "sentenceCount" "I" ∈ mv_tb := mv_w 121 (by decide +kernel) (by decide +kernel)
theorem wd_13 : Cond.fieldLink RX1 37 "QuoteGrid$Content" "quoteCount" "I" ∈ mv_tb := mv_w 212 (by decide +kernel) (by decide +kernel)
theorem wd_14 : Cond.fieldLink RX1 19 "QuoteGrid$Content" "quotes" "[LQuoteGrid$Quote;" ∈ mv_tb := mv_w 199 (by decide +kernel) (by decide +kernel)
theorem wd_15 : Cond.fieldLink RX1 66 "QuoteGrid$Quote" "article" "I" ∈ mv_tb := mv_w 143 (by decide +kernel) (by decide +kernel)
theorem wd_16 : Cond.fieldLink RX1 69 "QuoteGrid$Quote" "sentence" "I" ∈ mv_tb := mv_w 146 (by decide +kernel) (by decide +kernel)
theorem wd_17 : Cond.fieldLink RX1 72 "QuoteGrid$Quote" "width" "I" ∈ mv_tb := mv_w 152 (by decide +kernel) (by decide +kernel)
theorem wd_18 : Cond.fieldLink RX1 75 "QuoteGrid$Quote" "height" "I" ∈ mv_tb := mv_w 157 (by decide +kernel) (by decide +kernel)
theorem wd_19 : Cond.fieldLink RX1 78 "QuoteGrid$Quote" "placed" "Z" ∈ mv_tb := mv_w 162 (by decide +kernel) (by decide +kernel)
theorem wd_20 : Cond.fieldLink RX2 15 "QuoteGrid$Flow" "linesOnPage" "[I" ∈ mv_tb := mv_w 325 (by decide +kernel) (by decide +kernel)
theorem wd_21 : Cond.fieldLink RX3 11 "QuoteGrid$History" "states" "[LQuoteGrid$State;" ∈ mv_tb := mv_w 251 (by decide +kernel) (by decide +kernel)
theorem wd_22 : Cond.fieldLink RX3 18 "QuoteGrid$History" "size" "I" ∈ mv_tb := mv_w 252 (by decide +kernel) (by decide +kernel)
theorem wd_23 : Cond.fieldLink RX4 9 "QuoteGrid$Layout" "takers" "[I" ∈ mv_tb := mv_w 345 (by decide +kernel) (by decide +kernel)
theorem wd_24 : Cond.fieldLink RX4 51 "QuoteGrid$Layout" "articleCount" "I" ∈ mv_tb := mv_w 350 (by decide +kernel) (by decide +kernel)
theorem wd_25 : Cond.fieldLink RX4 17 "QuoteGrid$Layout" "flows" "[LQuoteGrid$Flow;" ∈ mv_tb := mv_w 347 (by decide +kernel) (by decide +kernel)
theorem wd_26 : Cond.fieldLink RX4 85 "QuoteGrid$Flow" "overset" "I" ∈ mv_tb := mv_w 329 (by decide +kernel) (by decide +kernel)
theorem wd_27 : Cond.fieldLink RX4 88 "QuoteGrid$Flow" "jumps" "I" ∈ mv_tb := mv_w 332 (by decide +kernel) (by decide +kernel)
theorem wd_28 : Cond.fieldLink RX5 9 "QuoteGrid$Quote" "article" "I" ∈ mv_tb := mv_w 140 (by decide +kernel) (by decide +kernel)
theorem wd_29 : Cond.fieldLink RX5 15 "QuoteGrid$Quote" "sentence" "I" ∈ mv_tb := mv_w 145 (by decide +kernel) (by decide +kernel)
theorem wd_30 : Cond.fieldLink RX5 18 "QuoteGrid$Quote" "width" "I" ∈ mv_tb := mv_w 149 (by decide +kernel) (by decide +kernel)
theorem wd_31 : Cond.fieldLink RX5 21 "QuoteGrid$Quote" "height" "I" ∈ mv_tb := mv_w 154 (by decide +kernel) (by decide +kernel)
theorem wd_32 : Cond.fieldLink RX5 24 "QuoteGrid$Quote" "placed" "Z" ∈ mv_tb := mv_w 161 (by decide +kernel) (by decide +kernel)
theorem wd_33 : Cond.fieldLink RX5 28 "QuoteGrid$Quote" "page" "I" ∈ mv_tb := mv_w 164 (by decide +kernel) (by decide +kernel)
theorem wd_34 : Cond.fieldLink RX5 31 "QuoteGrid$Quote" "column" "I" ∈ mv_tb := mv_w 169 (by decide +kernel) (by decide +kernel)
theorem wd_35 : Cond.fieldLink RX5 34 "QuoteGrid$Quote" "row" "I" ∈ mv_tb := mv_w 173 (by decide +kernel) (by decide +kernel)
theorem wd_36 : Cond.fieldLink RX6 25 "QuoteGrid$Reader" "errorPosition" "I" ∈ mv_tb := mv_w 289 (by decide +kernel) (by decide +kernel)
theorem wd_37 : Cond.fieldLink RX6 36 "QuoteGrid$Reader" "position" "I" ∈ mv_tb := mv_w 291 (by decide +kernel) (by decide +kernel)
theorem wd_38 : Cond.fieldLink RX6 12 "QuoteGrid$Reader" "text" "LQuoteGrid$Text;" ∈ mv_tb := mv_w 283 (by decide +kernel) (by decide +kernel)
theorem wd_39 : Cond.fieldLink RX6 104 "QuoteGrid$Text" "length" "I" ∈ mv_tb := mv_w 274 (by decide +kernel) (by decide +kernel)
theorem wd_40 : Cond.fieldLink RX6 105 "QuoteGrid$Text" "signs" "[I" ∈ mv_tb := mv_w 272 (by decide +kernel) (by decide +kernel)
theorem wd_41 : Cond.fieldLink RX7 22 "QuoteGrid$State" "snapshotTaken" "[Z" ∈ mv_tb := mv_w 232 (by decide +kernel) (by decide +kernel)
theorem wd_42 : Cond.fieldLink RX10 34 "QuoteGrid" "text" "LQuoteGrid$Text;" ∈ mv_tb := mv_w 384 (by decide +kernel) (by decide +kernel)
theorem wd_43 : Cond.fieldLink RX10 189 "QuoteGrid$Text" "length" "I" ∈ mv_tb := mv_w 275 (by decide +kernel) (by decide +kernel)
theorem wd_44 : Cond.fieldLink RX11 41 "QuoteGridModel" "savedMany" "I" ∈ mv_tb := mv_w 815 (by decide +kernel) (by decide +kernel)
theorem wd_45 : Cond.fieldLink RX11 16 "QuoteGridModel" "saved" "[I" ∈ mv_tb := mv_w 814 (by decide +kernel) (by decide +kernel)
theorem wd_46 : Cond.fieldLink RX11 7 "QuoteGridModel" "s" "[I" ∈ mv_tb := mv_w 812 (by decide +kernel) (by decide +kernel)
theorem wd_47 : Cond.fieldLink RX11 13 "QuoteGridModel" "aside" "[I" ∈ mv_tb := mv_w 813 (by decide +kernel) (by decide +kernel)
theorem wd_48 : Cond.fieldLink RX11 28 "QuoteGridModel" "over" "[I" ∈ mv_tb := mv_w 820 (by decide +kernel) (by decide +kernel)
theorem wd_49 : Cond.fieldLink RX11 34 "QuoteGridModel" "overThen" "[I" ∈ mv_tb := mv_w 822 (by decide +kernel) (by decide +kernel)
theorem wd_50 : Cond.fieldLink RX11 37 "QuoteGridModel" "thrown" "I" ∈ mv_tb := mv_w 811 (by decide +kernel) (by decide +kernel)
theorem wd_51 : Cond.fieldLink RX11 191 "QuoteGridModel" "length" "I" ∈ mv_tb := mv_w 817 (by decide +kernel) (by decide +kernel)
theorem wd_52 : Cond.fieldLink RX11 194 "QuoteGridModel" "next" "I" ∈ mv_tb := mv_w 828 (by decide +kernel) (by decide +kernel)
theorem wd_53 : Cond.fieldLink RX11 19 "QuoteGridModel" "text" "[I" ∈ mv_tb := mv_w 816 (by decide +kernel) (by decide +kernel)
theorem wd_54 : Cond.static yJ9_max_7cf53 ∈ mv_tb := mv_w 480 (by decide +kernel) (by decide +kernel)
theorem wd_55 : Cond.methodLink RX0 31 yJ9_max_7cf53 ∈ mv_tb := mv_w 479 (by decide +kernel) (by decide +kernel)
theorem wd_56 : Cond.methodLink RX1 33 yX0_copyFrom ∈ mv_tb := mv_w 433 (by decide +kernel) (by decide +kernel)
theorem wd_57 : Cond.instanceMethod yX0_copyFrom ∈ mv_tb := mv_w 434 (by decide +kernel) (by decide +kernel)
theorem wd_58 : Cond.selects yX0_copyFrom.cls yX0_copyFrom yX0_copyFrom ∈ mv_tb := mv_w 435 (by decide +kernel) (by decide +kernel)
theorem wd_59 : Cond.methodLink RX1 40 yX5_copyFrom ∈ mv_tb := mv_w 440 (by decide +kernel) (by decide +kernel)
theorem wd_60 : Cond.instanceMethod yX5_copyFrom ∈ mv_tb := mv_w 441 (by decide +kernel) (by decide +kernel)
theorem wd_61 : Cond.selects yX5_copyFrom.cls yX5_copyFrom yX5_copyFrom ∈ mv_tb := mv_w 442 (by decide +kernel) (by decide +kernel)
theorem wd_62 : Cond.fieldLink RX1 23 "QuoteGrid$Content" "rules" "[I" ∈ mv_tb := mv_w 203 (by decide +kernel) (by decide +kernel)
theorem wd_63 : Cond.methodLink RX1 43 arraycopyName ∈ mv_tb := mv_w 444 (by decide +kernel) (by decide +kernel)
theorem wd_64 : Cond.static yX10_isWithin ∈ mv_tb := mv_w 411 (by decide +kernel) (by decide +kernel)
theorem wd_65 : Cond.fieldLink RX2 18 "QuoteGrid$Flow" "laid" "I" ∈ mv_tb := mv_w 326 (by decide +kernel) (by decide +kernel)
theorem wd_66 : Cond.fieldLink RX2 22 "QuoteGrid$Flow" "jumps" "I" ∈ mv_tb := mv_w 331 (by decide +kernel) (by decide +kernel)
theorem wd_67 : Cond.static yJ7_fill_53178 ∈ mv_tb := mv_w 532 (by decide +kernel) (by decide +kernel)
theorem wd_68 : Cond.methodLink RX2 25 yJ7_fill_53178 ∈ mv_tb := mv_w 546 (by decide +kernel) (by decide +kernel)
theorem wd_69 : Cond.fieldLink RX2 31 "QuoteGrid$Article" "length" "I" ∈ mv_tb := mv_w 115 (by decide +kernel) (by decide +kernel)
theorem wd_70 : Cond.static yJ9_min_7cf53 ∈ mv_tb := mv_w 539 (by decide +kernel) (by decide +kernel)
theorem wd_71 : Cond.methodLink RX2 36 yJ9_min_7cf53 ∈ mv_tb := mv_w 547 (by decide +kernel) (by decide +kernel)
theorem wd_72 : Cond.fieldLink RX2 42 "QuoteGrid$Article" "start" "I" ∈ mv_tb := mv_w 111 (by decide +kernel) (by decide +kernel)
theorem wd_73 : Cond.static yX10_pageOf ∈ mv_tb := mv_w 549 (by decide +kernel) (by decide +kernel)
theorem wd_74 : Cond.fieldLink RX2 9 "QuoteGrid$Flow" "modules" "[I" ∈ mv_tb := mv_w 324 (by decide +kernel) (by decide +kernel)
theorem wd_75 : Cond.fieldLink RX2 49 "QuoteGrid$Flow" "overset" "I" ∈ mv_tb := mv_w 328 (by decide +kernel) (by decide +kernel)
theorem wd_76 : Cond.fieldLink RX4 60 "QuoteGrid$Quote" "column" "I" ∈ mv_tb := mv_w 170 (by decide +kernel) (by decide +kernel)
theorem wd_77 : Cond.fieldLink RX4 63 "QuoteGrid$Quote" "width" "I" ∈ mv_tb := mv_w 150 (by decide +kernel) (by decide +kernel)
theorem wd_78 : Cond.methodLink RX4 66 yJ9_min_7cf53 ∈ mv_tb := mv_w 538 (by decide +kernel) (by decide +kernel)
theorem wd_79 : Cond.fieldLink RX4 72 "QuoteGrid$Quote" "row" "I" ∈ mv_tb := mv_w 174 (by decide +kernel) (by decide +kernel)
theorem wd_80 : Cond.fieldLink RX4 75 "QuoteGrid$Quote" "height" "I" ∈ mv_tb := mv_w 155 (by decide +kernel) (by decide +kernel)
theorem wd_81 : Cond.fieldLink RX4 78 "QuoteGrid$Quote" "page" "I" ∈ mv_tb := mv_w 165 (by decide +kernel) (by decide +kernel)
theorem wd_82 : Cond.static yX10_moduleAt ∈ mv_tb := mv_w 520 (by decide +kernel) (by decide +kernel)
theorem wd_83 : Cond.static yX10_columnOf ∈ mv_tb := mv_w 561 (by decide +kernel) (by decide +kernel)
theorem wd_84 : Cond.static yX10_rowOf ∈ mv_tb := mv_w 564 (by decide +kernel) (by decide +kernel)
theorem wd_85 : Cond.methodLink RX5 47 yJ9_min_7cf53 ∈ mv_tb := mv_w 622 (by decide +kernel) (by decide +kernel)
theorem wd_86 : Cond.methodLink RX5 53 yJ9_max_7cf53 ∈ mv_tb := mv_w 577 (by decide +kernel) (by decide +kernel)
theorem wd_87 : Cond.static yX10_differenceOfRuns ∈ mv_tb := mv_w 575 (by decide +kernel) (by decide +kernel)
theorem wd_88 : Cond.methodLink RX6 39 yX6_hasFailed ∈ mv_tb := mv_w 687 (by decide +kernel) (by decide +kernel)
theorem wd_89 : Cond.instanceMethod yX6_hasFailed ∈ mv_tb := mv_w 688 (by decide +kernel) (by decide +kernel)
theorem wd_90 : Cond.selects yX6_hasFailed.cls yX6_hasFailed yX6_hasFailed ∈ mv_tb := mv_w 689 (by decide +kernel) (by decide +kernel)
theorem wd_91 : Cond.methodLink RX10 61 yX10_isWithin ∈ mv_tb := mv_w 410 (by decide +kernel) (by decide +kernel)
theorem wd_92 : Cond.fieldLink RX10 192 "QuoteGrid$Text" "signs" "[I" ∈ mv_tb := mv_w 273 (by decide +kernel) (by decide +kernel)
theorem wd_93 : Cond.static yX11_in ∈ mv_tb := mv_w 874 (by decide +kernel) (by decide +kernel)
theorem wd_94 : Cond.methodLink RX11 44 yX11_in ∈ mv_tb := mv_w 873 (by decide +kernel) (by decide +kernel)
theorem wd_95 : Cond.methodLink RX11 56 yX11_ofQuote ∈ mv_tb := mv_w 892 (by decide +kernel) (by decide +kernel)
theorem wd_96 : Cond.instanceMethod yX11_ofQuote ∈ mv_tb := mv_w 894 (by decide +kernel) (by decide +kernel)
theorem wd_97 : Cond.selects yX11_ofQuote.cls yX11_ofQuote yX11_ofQuote ∈ mv_tb := mv_w 19 (by decide +kernel) (by decide +kernel)
theorem wd_98 : Cond.fieldLink RX11 22 "QuoteGridModel" "taken" "[I" ∈ mv_tb := mv_w 818 (by decide +kernel) (by decide +kernel)
theorem wd_99 : Cond.fieldLink RX11 31 "QuoteGridModel" "jumps" "[I" ∈ mv_tb := mv_w 821 (by decide +kernel) (by decide +kernel)
theorem wd_100 : Cond.methodLink RX11 52 yX11_of ∈ mv_tb := mv_w 912 (by decide +kernel) (by decide +kernel)
theorem wd_101 : Cond.instanceMethod yX11_of ∈ mv_tb := mv_w 914 (by decide +kernel) (by decide +kernel)
theorem wd_102 : Cond.selects yX11_of.cls yX11_of yX11_of ∈ mv_tb := mv_w 23 (by decide +kernel) (by decide +kernel)
theorem wd_103 : Cond.fieldLink RX11 25 "QuoteGridModel" "lines" "[I" ∈ mv_tb := mv_w 819 (by decide +kernel) (by decide +kernel)
theorem wd_104 : Cond.static yX11_more ∈ mv_tb := mv_w 917 (by decide +kernel) (by decide +kernel)
theorem wd_105 : Cond.methodLink RX11 72 yX11_more ∈ mv_tb := mv_w 916 (by decide +kernel) (by decide +kernel)
theorem wd_106 : Cond.methodLink RX11 95 yX11_setQuote ∈ mv_tb := mv_w 900 (by decide +kernel) (by decide +kernel)
theorem wd_107 : Cond.instanceMethod yX11_setQuote ∈ mv_tb := mv_w 902 (by decide +kernel) (by decide +kernel)
theorem wd_108 : Cond.selects yX11_setQuote.cls yX11_setQuote yX11_setQuote ∈ mv_tb := mv_w 21 (by decide +kernel) (by decide +kernel)
theorem wd_109 : Cond.methodLink RX11 154 yX11_act ∈ mv_tb := mv_w 876 (by decide +kernel) (by decide +kernel)
theorem wd_110 : Cond.instanceMethod yX11_act ∈ mv_tb := mv_w 878 (by decide +kernel) (by decide +kernel)
theorem wd_111 : Cond.selects yX11_act.cls yX11_act yX11_act ∈ mv_tb := mv_w 16 (by decide +kernel) (by decide +kernel)
theorem wd_112 : Cond.methodLink RX11 157 yX11_putArticle ∈ mv_tb := mv_w 880 (by decide +kernel) (by decide +kernel)
theorem wd_113 : Cond.instanceMethod yX11_putArticle ∈ mv_tb := mv_w 882 (by decide +kernel) (by decide +kernel)
theorem wd_114 : Cond.selects yX11_putArticle.cls yX11_putArticle yX11_putArticle ∈ mv_tb := mv_w 17 (by decide +kernel) (by decide +kernel)
theorem wd_115 : Cond.methodLink RX11 197 yX11_here ∈ mv_tb := mv_w 1092 (by decide +kernel) (by decide +kernel)
theorem wd_116 : Cond.instanceMethod yX11_here ∈ mv_tb := mv_w 1094 (by decide +kernel) (by decide +kernel)
theorem wd_117 : Cond.selects yX11_here.cls yX11_here yX11_here ∈ mv_tb := mv_w 52 (by decide +kernel) (by decide +kernel)
theorem wd_118 : Cond.constant RX11 200 (Int32.ofInt 100000) ∈ mv_tb := mv_w 1112 (by decide +kernel) (by decide +kernel)
theorem wd_119 : Cond.fieldLink RX11 201 "QuoteGridModel" "number" "I" ∈ mv_tb := mv_w 829 (by decide +kernel) (by decide +kernel)
theorem wd_120 : Cond.methodLink RX1 53 yX1_hasArticle ∈ mv_tb := mv_w 462 (by decide +kernel) (by decide +kernel)
theorem wd_121 : Cond.instanceMethod yX1_hasArticle ∈ mv_tb := mv_w 454 (by decide +kernel) (by decide +kernel)
theorem wd_122 : Cond.selects yX1_hasArticle.cls yX1_hasArticle yX1_hasArticle ∈ mv_tb := mv_w 455 (by decide +kernel) (by decide +kernel)
theorem wd_123 : Cond.methodLink RX1 86 yX1_hasQuote ∈ mv_tb := mv_w 467 (by decide +kernel) (by decide +kernel)
theorem wd_124 : Cond.instanceMethod yX1_hasQuote ∈ mv_tb := mv_w 468 (by decide +kernel) (by decide +kernel)
theorem wd_125 : Cond.selects yX1_hasQuote.cls yX1_hasQuote yX1_hasQuote ∈ mv_tb := mv_w 469 (by decide +kernel) (by decide +kernel)
theorem wd_126 : Cond.fieldLink RX1 89 "QuoteGrid$Quote" "page" "I" ∈ mv_tb := mv_w 167 (by decide +kernel) (by decide +kernel)
theorem wd_127 : Cond.methodLink RX1 92 yX5_leaning ∈ mv_tb := mv_w 618 (by decide +kernel) (by decide +kernel)
theorem wd_128 : Cond.instanceMethod yX5_leaning ∈ mv_tb := mv_w 619 (by decide +kernel) (by decide +kernel)
theorem wd_129 : Cond.selects yX5_leaning.cls yX5_leaning yX5_leaning ∈ mv_tb := mv_w 620 (by decide +kernel) (by decide +kernel)
theorem wd_130 : Cond.static yJ9_abs_0f7a4 ∈ mv_tb := mv_w 624 (by decide +kernel) (by decide +kernel)
theorem wd_131 : Cond.methodLink RX1 96 yJ9_abs_0f7a4 ∈ mv_tb := mv_w 623 (by decide +kernel) (by decide +kernel)
theorem wd_132 : Cond.methodLink RX4 22 yJ7_fill_53178 ∈ mv_tb := mv_w 531 (by decide +kernel) (by decide +kernel)
theorem wd_133 : Cond.fieldLink RX4 28 "QuoteGrid$Content" "quoteCount" "I" ∈ mv_tb := mv_w 211 (by decide +kernel) (by decide +kernel)
theorem wd_134 : Cond.fieldLink RX4 34 "QuoteGrid$Content" "quotes" "[LQuoteGrid$Quote;" ∈ mv_tb := mv_w 201 (by decide +kernel) (by decide +kernel)
theorem wd_135 : Cond.fieldLink RX4 38 "QuoteGrid$Quote" "placed" "Z" ∈ mv_tb := mv_w 159 (by decide +kernel) (by decide +kernel)
theorem wd_136 : Cond.methodLink RX4 44 yX4_cover ∈ mv_tb := mv_w 534 (by decide +kernel) (by decide +kernel)
theorem wd_137 : Cond.instanceMethod yX4_cover ∈ mv_tb := mv_w 536 (by decide +kernel) (by decide +kernel)
theorem wd_138 : Cond.selects yX4_cover.cls yX4_cover yX4_cover ∈ mv_tb := mv_w 2 (by decide +kernel) (by decide +kernel)
theorem wd_139 : Cond.fieldLink RX4 48 "QuoteGrid$Content" "articleCount" "I" ∈ mv_tb := mv_w 208 (by decide +kernel) (by decide +kernel)
theorem wd_140 : Cond.fieldLink RX4 52 "QuoteGrid$Content" "articles" "[LQuoteGrid$Article;" ∈ mv_tb := mv_w 195 (by decide +kernel) (by decide +kernel)
theorem wd_141 : Cond.methodLink RX4 56 yX2_pour ∈ mv_tb := mv_w 542 (by decide +kernel) (by decide +kernel)
theorem wd_142 : Cond.instanceMethod yX2_pour ∈ mv_tb := mv_w 543 (by decide +kernel) (by decide +kernel)
theorem wd_143 : Cond.selects yX2_pour.cls yX2_pour yX2_pour ∈ mv_tb := mv_w 544 (by decide +kernel) (by decide +kernel)
theorem wd_144 : Cond.fieldLink RX4 91 "QuoteGrid$Quote" "article" "I" ∈ mv_tb := mv_w 142 (by decide +kernel) (by decide +kernel)
theorem wd_145 : Cond.fieldLink RX4 94 "QuoteGrid$Quote" "sentence" "I" ∈ mv_tb := mv_w 147 (by decide +kernel) (by decide +kernel)
theorem wd_146 : Cond.fieldLink RX4 97 "QuoteGrid$Article" "sentenceCount" "I" ∈ mv_tb := mv_w 124 (by decide +kernel) (by decide +kernel)
theorem wd_147 : Cond.fieldLink RX4 102 "QuoteGrid$Article" "lines" "[I" ∈ mv_tb := mv_w 108 (by decide +kernel) (by decide +kernel)
theorem wd_148 : Cond.methodLink RX4 105 yX2_moduleOf ∈ mv_tb := mv_w 598 (by decide +kernel) (by decide +kernel)
theorem wd_149 : Cond.instanceMethod yX2_moduleOf ∈ mv_tb := mv_w 599 (by decide +kernel) (by decide +kernel)
theorem wd_150 : Cond.selects yX2_moduleOf.cls yX2_moduleOf yX2_moduleOf ∈ mv_tb := mv_w 600 (by decide +kernel) (by decide +kernel)
theorem wd_151 : Cond.methodLink RX4 112 yX5_distanceFromModule ∈ mv_tb := mv_w 604 (by decide +kernel) (by decide +kernel)
theorem wd_152 : Cond.instanceMethod yX5_distanceFromModule ∈ mv_tb := mv_w 605 (by decide +kernel) (by decide +kernel)
theorem wd_153 : Cond.selects yX5_distanceFromModule.cls yX5_distanceFromModule yX5_distanceFromModule ∈ mv_tb := mv_w 606 (by decide +kernel) (by decide +kernel)
theorem wd_154 : Cond.methodLink RX6 43 yX6_nextSign ∈ mv_tb := mv_w 691 (by decide +kernel) (by decide +kernel)
theorem wd_155 : Cond.instanceMethod yX6_nextSign ∈ mv_tb := mv_w 693 (by decide +kernel) (by decide +kernel)
theorem wd_156 : Cond.selects yX6_nextSign.cls yX6_nextSign yX6_nextSign ∈ mv_tb := mv_w 7 (by decide +kernel) (by decide +kernel)
theorem wd_157 : Cond.methodLink RX6 62 yX6_failAt ∈ mv_tb := mv_w 712 (by decide +kernel) (by decide +kernel)
theorem wd_158 : Cond.instanceMethod yX6_failAt ∈ mv_tb := mv_w 714 (by decide +kernel) (by decide +kernel)
theorem wd_159 : Cond.selects yX6_failAt.cls yX6_failAt yX6_failAt ∈ mv_tb := mv_w 11 (by decide +kernel) (by decide +kernel)
theorem wd_160 : Cond.static yX6_isDigit ∈ mv_tb := mv_w 708 (by decide +kernel) (by decide +kernel)
theorem wd_161 : Cond.methodLink RX6 109 yX6_isDigit ∈ mv_tb := mv_w 707 (by decide +kernel) (by decide +kernel)
theorem wd_162 : Cond.methodLink RX6 112 yJ9_min_7cf53 ∈ mv_tb := mv_w 711 (by decide +kernel) (by decide +kernel)
theorem wd_163 : Cond.fieldLink RX7 12 "QuoteGrid$State" "content" "LQuoteGrid$Content;" ∈ mv_tb := mv_w 228 (by decide +kernel) (by decide +kernel)
theorem wd_164 : Cond.methodLink RX7 26 yX1_copyFrom ∈ mv_tb := mv_w 429 (by decide +kernel) (by decide +kernel)
theorem wd_165 : Cond.instanceMethod yX1_copyFrom ∈ mv_tb := mv_w 430 (by decide +kernel) (by decide +kernel)
theorem wd_166 : Cond.selects yX1_copyFrom.cls yX1_copyFrom yX1_copyFrom ∈ mv_tb := mv_w 431 (by decide +kernel) (by decide +kernel)
theorem wd_167 : Cond.fieldLink RX7 18 "QuoteGrid$State" "snapshots" "[LQuoteGrid$Content;" ∈ mv_tb := mv_w 230 (by decide +kernel) (by decide +kernel)
theorem wd_168 : Cond.fieldLink RX9 12 "QuoteGrid$Trial" "plan" "LQuoteGrid$Content;" ∈ mv_tb := mv_w 358 (by decide +kernel) (by decide +kernel)
theorem wd_169 : Cond.fieldLink RX9 73 "QuoteGrid$Content" "quoteCount" "I" ∈ mv_tb := mv_w 213 (by decide +kernel) (by decide +kernel)
theorem wd_170 : Cond.fieldLink RX9 36 "QuoteGrid$Content" "quotes" "[LQuoteGrid$Quote;" ∈ mv_tb := mv_w 200 (by decide +kernel) (by decide +kernel)
theorem wd_171 : Cond.fieldLink RX9 32 "QuoteGrid$Trial" "quote" "I" ∈ mv_tb := mv_w 361 (by decide +kernel) (by decide +kernel)
theorem wd_172 : Cond.fieldLink RX9 40 "QuoteGrid$Quote" "placed" "Z" ∈ mv_tb := mv_w 160 (by decide +kernel) (by decide +kernel)
theorem wd_173 : Cond.fieldLink RX9 76 "QuoteGrid$Quote" "page" "I" ∈ mv_tb := mv_w 166 (by decide +kernel) (by decide +kernel)
theorem wd_174 : Cond.methodLink RX9 79 yX5_distanceFromQuote ∈ mv_tb := mv_w 570 (by decide +kernel) (by decide +kernel)
theorem wd_175 : Cond.instanceMethod yX5_distanceFromQuote ∈ mv_tb := mv_w 571 (by decide +kernel) (by decide +kernel)
theorem wd_176 : Cond.selects yX5_distanceFromQuote.cls yX5_distanceFromQuote yX5_distanceFromQuote ∈ mv_tb := mv_w 572 (by decide +kernel) (by decide +kernel)
theorem wd_177 : Cond.fieldLink RX9 82 "QuoteGrid$Content" "rules" "[I" ∈ mv_tb := mv_w 204 (by decide +kernel) (by decide +kernel)
theorem wd_178 : Cond.methodLink RX11 48 yX11_isArticle ∈ mv_tb := mv_w 888 (by decide +kernel) (by decide +kernel)
theorem wd_179 : Cond.instanceMethod yX11_isArticle ∈ mv_tb := mv_w 890 (by decide +kernel) (by decide +kernel)
theorem wd_180 : Cond.selects yX11_isArticle.cls yX11_isArticle yX11_isArticle ∈ mv_tb := mv_w 18 (by decide +kernel) (by decide +kernel)
theorem wd_181 : Cond.methodLink RX11 59 yX11_isPlaced ∈ mv_tb := mv_w 974 (by decide +kernel) (by decide +kernel)
theorem wd_182 : Cond.instanceMethod yX11_isPlaced ∈ mv_tb := mv_w 976 (by decide +kernel) (by decide +kernel)
theorem wd_183 : Cond.selects yX11_isPlaced.cls yX11_isPlaced yX11_isPlaced ∈ mv_tb := mv_w 33 (by decide +kernel) (by decide +kernel)
theorem wd_184 : Cond.methodLink RX11 62 yX11_layQuote ∈ mv_tb := mv_w 978 (by decide +kernel) (by decide +kernel)
theorem wd_185 : Cond.instanceMethod yX11_layQuote ∈ mv_tb := mv_w 980 (by decide +kernel) (by decide +kernel)
theorem wd_186 : Cond.selects yX11_layQuote.cls yX11_layQuote yX11_layQuote ∈ mv_tb := mv_w 34 (by decide +kernel) (by decide +kernel)
theorem wd_187 : Cond.methodLink RX11 66 yX11_layArticle ∈ mv_tb := mv_w 982 (by decide +kernel) (by decide +kernel)
theorem wd_188 : Cond.instanceMethod yX11_layArticle ∈ mv_tb := mv_w 984 (by decide +kernel) (by decide +kernel)
theorem wd_189 : Cond.selects yX11_layArticle.cls yX11_layArticle yX11_layArticle ∈ mv_tb := mv_w 35 (by decide +kernel) (by decide +kernel)
theorem wd_190 : Cond.static yX11_gap ∈ mv_tb := mv_w 999 (by decide +kernel) (by decide +kernel)
theorem wd_191 : Cond.methodLink RX11 75 yX11_gap ∈ mv_tb := mv_w 998 (by decide +kernel) (by decide +kernel)
theorem wd_192 : Cond.static yX11_apart ∈ mv_tb := mv_w 1042 (by decide +kernel) (by decide +kernel)
theorem wd_193 : Cond.methodLink RX11 89 yX11_apart ∈ mv_tb := mv_w 1041 (by decide +kernel) (by decide +kernel)
theorem wd_194 : Cond.fieldLink RX11 122 "QuoteGridModel" "wasOn" "I" ∈ mv_tb := mv_w 824 (by decide +kernel) (by decide +kernel)
theorem wd_195 : Cond.fieldLink RX11 125 "QuoteGridModel" "wasColumn" "I" ∈ mv_tb := mv_w 825 (by decide +kernel) (by decide +kernel)
theorem wd_196 : Cond.fieldLink RX11 128 "QuoteGridModel" "wasRow" "I" ∈ mv_tb := mv_w 826 (by decide +kernel) (by decide +kernel)
theorem wd_197 : Cond.methodLink RX11 134 yX11_put ∈ mv_tb := mv_w 939 (by decide +kernel) (by decide +kernel)
theorem wd_198 : Cond.instanceMethod yX11_put ∈ mv_tb := mv_w 941 (by decide +kernel) (by decide +kernel)
theorem wd_199 : Cond.selects yX11_put.cls yX11_put yX11_put ∈ mv_tb := mv_w 27 (by decide +kernel) (by decide +kernel)
theorem wd_200 : Cond.fieldLink RX11 119 "QuoteGridModel" "wasPlaced" "I" ∈ mv_tb := mv_w 823 (by decide +kernel) (by decide +kernel)
theorem wd_201 : Cond.methodLink RX11 161 yX11_takeQuote ∈ mv_tb := mv_w 896 (by decide +kernel) (by decide +kernel)
theorem wd_202 : Cond.instanceMethod yX11_takeQuote ∈ mv_tb := mv_w 898 (by decide +kernel) (by decide +kernel)
theorem wd_203 : Cond.selects yX11_takeQuote.cls yX11_takeQuote yX11_takeQuote ∈ mv_tb := mv_w 20 (by decide +kernel) (by decide +kernel)
theorem wd_204 : Cond.methodLink RX11 164 yX11_lastSentence ∈ mv_tb := mv_w 908 (by decide +kernel) (by decide +kernel)
theorem wd_205 : Cond.instanceMethod yX11_lastSentence ∈ mv_tb := mv_w 910 (by decide +kernel) (by decide +kernel)
theorem wd_206 : Cond.selects yX11_lastSentence.cls yX11_lastSentence yX11_lastSentence ∈ mv_tb := mv_w 22 (by decide +kernel) (by decide +kernel)
theorem wd_207 : Cond.methodLink RX11 167 yX11_putSentence ∈ mv_tb := mv_w 923 (by decide +kernel) (by decide +kernel)
theorem wd_208 : Cond.instanceMethod yX11_putSentence ∈ mv_tb := mv_w 925 (by decide +kernel) (by decide +kernel)
theorem wd_209 : Cond.selects yX11_putSentence.cls yX11_putSentence yX11_putSentence ∈ mv_tb := mv_w 24 (by decide +kernel) (by decide +kernel)
theorem wd_210 : Cond.methodLink RX11 176 yX11_isQuote ∈ mv_tb := mv_w 947 (by decide +kernel) (by decide +kernel)
theorem wd_211 : Cond.instanceMethod yX11_isQuote ∈ mv_tb := mv_w 949 (by decide +kernel) (by decide +kernel)
theorem wd_212 : Cond.selects yX11_isQuote.cls yX11_isQuote yX11_isQuote ∈ mv_tb := mv_w 28 (by decide +kernel) (by decide +kernel)
theorem wd_213 : Cond.methodLink RX11 188 yX11_placedMany ∈ mv_tb := mv_w 1064 (by decide +kernel) (by decide +kernel)
theorem wd_214 : Cond.instanceMethod yX11_placedMany ∈ mv_tb := mv_w 1066 (by decide +kernel) (by decide +kernel)
theorem wd_215 : Cond.selects yX11_placedMany.cls yX11_placedMany yX11_placedMany ∈ mv_tb := mv_w 50 (by decide +kernel) (by decide +kernel)
theorem wd_216 : Cond.methodLink RX11 204 yX11_reads ∈ mv_tb := mv_w 1108 (by decide +kernel) (by decide +kernel)
theorem wd_217 : Cond.instanceMethod yX11_reads ∈ mv_tb := mv_w 1110 (by decide +kernel) (by decide +kernel)
theorem wd_218 : Cond.selects yX11_reads.cls yX11_reads yX11_reads ∈ mv_tb := mv_w 56 (by decide +kernel) (by decide +kernel)
theorem wd_219 : Cond.methodLink RX11 207 yX11_takes ∈ mv_tb := mv_w 1100 (by decide +kernel) (by decide +kernel)
theorem wd_220 : Cond.instanceMethod yX11_takes ∈ mv_tb := mv_w 1102 (by decide +kernel) (by decide +kernel)
theorem wd_221 : Cond.selects yX11_takes.cls yX11_takes yX11_takes ∈ mv_tb := mv_w 54 (by decide +kernel) (by decide +kernel)
theorem wd_222 : Cond.methodLink RX1 82 yX1_dropQuote ∈ mv_tb := mv_w 463 (by decide +kernel) (by decide +kernel)
theorem wd_223 : Cond.instanceMethod yX1_dropQuote ∈ mv_tb := mv_w 464 (by decide +kernel) (by decide +kernel)
theorem wd_224 : Cond.selects yX1_dropQuote.cls yX1_dropQuote yX1_dropQuote ∈ mv_tb := mv_w 465 (by decide +kernel) (by decide +kernel)
theorem wd_225 : Cond.methodLink RX1 102 yX1_balanceOf ∈ mv_tb := mv_w 614 (by decide +kernel) (by decide +kernel)
theorem wd_226 : Cond.instanceMethod yX1_balanceOf ∈ mv_tb := mv_w 615 (by decide +kernel) (by decide +kernel)
theorem wd_227 : Cond.selects yX1_balanceOf.cls yX1_balanceOf yX1_balanceOf ∈ mv_tb := mv_w 616 (by decide +kernel) (by decide +kernel)
theorem wd_228 : Cond.methodLink RX3 22 yX3_dropOldest ∈ mv_tb := mv_w 421 (by decide +kernel) (by decide +kernel)
theorem wd_229 : Cond.instanceMethod yX3_dropOldest ∈ mv_tb := mv_w 423 (by decide +kernel) (by decide +kernel)
theorem wd_230 : Cond.selects yX3_dropOldest.cls yX3_dropOldest yX3_dropOldest ∈ mv_tb := mv_w 1 (by decide +kernel) (by decide +kernel)
theorem wd_231 : Cond.methodLink RX3 25 yX7_copyFrom ∈ mv_tb := mv_w 425 (by decide +kernel) (by decide +kernel)
theorem wd_232 : Cond.instanceMethod yX7_copyFrom ∈ mv_tb := mv_w 426 (by decide +kernel) (by decide +kernel)
theorem wd_233 : Cond.selects yX7_copyFrom.cls yX7_copyFrom yX7_copyFrom ∈ mv_tb := mv_w 427 (by decide +kernel) (by decide +kernel)
theorem wd_234 : Cond.fieldLink RX6 88 "QuoteGrid$Article" "length" "I" ∈ mv_tb := mv_w 118 (by decide +kernel) (by decide +kernel)
theorem wd_235 : Cond.methodLink RX6 69 yX6_readNumber ∈ mv_tb := mv_w 703 (by decide +kernel) (by decide +kernel)
theorem wd_236 : Cond.instanceMethod yX6_readNumber ∈ mv_tb := mv_w 705 (by decide +kernel) (by decide +kernel)
theorem wd_237 : Cond.selects yX6_readNumber.cls yX6_readNumber yX6_readNumber ∈ mv_tb := mv_w 10 (by decide +kernel) (by decide +kernel)
theorem wd_238 : Cond.fieldLink RX6 93 "QuoteGrid$Article" "sentenceCount" "I" ∈ mv_tb := mv_w 123 (by decide +kernel) (by decide +kernel)
theorem wd_239 : Cond.methodLink RX6 96 yX0_newSentence ∈ mv_tb := mv_w 722 (by decide +kernel) (by decide +kernel)
theorem wd_240 : Cond.instanceMethod yX0_newSentence ∈ mv_tb := mv_w 491 (by decide +kernel) (by decide +kernel)
theorem wd_241 : Cond.selects yX0_newSentence.cls yX0_newSentence yX0_newSentence ∈ mv_tb := mv_w 492 (by decide +kernel) (by decide +kernel)
theorem wd_242 : Cond.fieldLink RX6 21 "QuoteGrid$Reader" "draft" "LQuoteGrid$Content;" ∈ mv_tb := mv_w 285 (by decide +kernel) (by decide +kernel)
theorem wd_243 : Cond.fieldLink RX6 50 "QuoteGrid$Content" "articleCount" "I" ∈ mv_tb := mv_w 209 (by decide +kernel) (by decide +kernel)
theorem wd_244 : Cond.methodLink RX6 76 yX1_hasArticle ∈ mv_tb := mv_w 717 (by decide +kernel) (by decide +kernel)
theorem wd_245 : Cond.fieldLink RX6 80 "QuoteGrid$Content" "articles" "[LQuoteGrid$Article;" ∈ mv_tb := mv_w 197 (by decide +kernel) (by decide +kernel)
theorem wd_246 : Cond.methodLink RX6 66 yX6_expect ∈ mv_tb := mv_w 727 (by decide +kernel) (by decide +kernel)
theorem wd_247 : Cond.instanceMethod yX6_expect ∈ mv_tb := mv_w 729 (by decide +kernel) (by decide +kernel)
theorem wd_248 : Cond.selects yX6_expect.cls yX6_expect yX6_expect ∈ mv_tb := mv_w 14 (by decide +kernel) (by decide +kernel)
theorem wd_249 : Cond.methodLink RX6 100 yX1_newQuote ∈ mv_tb := mv_w 731 (by decide +kernel) (by decide +kernel)
theorem wd_250 : Cond.instanceMethod yX1_newQuote ∈ mv_tb := mv_w 503 (by decide +kernel) (by decide +kernel)
theorem wd_251 : Cond.selects yX1_newQuote.cls yX1_newQuote yX1_newQuote ∈ mv_tb := mv_w 504 (by decide +kernel) (by decide +kernel)
theorem wd_252 : Cond.methodLink RX9 28 yX1_copyFrom ∈ mv_tb := mv_w 526 (by decide +kernel) (by decide +kernel)
theorem wd_253 : Cond.fieldLink RX9 21 "QuoteGrid$Trial" "before" "LQuoteGrid$Layout;" ∈ mv_tb := mv_w 359 (by decide +kernel) (by decide +kernel)
theorem wd_254 : Cond.methodLink RX9 46 yX4_arrange ∈ mv_tb := mv_w 527 (by decide +kernel) (by decide +kernel)
theorem wd_255 : Cond.instanceMethod yX4_arrange ∈ mv_tb := mv_w 528 (by decide +kernel) (by decide +kernel)
theorem wd_256 : Cond.selects yX4_arrange.cls yX4_arrange yX4_arrange ∈ mv_tb := mv_w 529 (by decide +kernel) (by decide +kernel)
theorem wd_257 : Cond.fieldLink RX9 25 "QuoteGrid$Trial" "after" "LQuoteGrid$Layout;" ∈ mv_tb := mv_w 360 (by decide +kernel) (by decide +kernel)
theorem wd_258 : Cond.methodLink RX9 109 yX4_distanceFromSentence ∈ mv_tb := mv_w 594 (by decide +kernel) (by decide +kernel)
theorem wd_259 : Cond.instanceMethod yX4_distanceFromSentence ∈ mv_tb := mv_w 595 (by decide +kernel) (by decide +kernel)
theorem wd_260 : Cond.selects yX4_distanceFromSentence.cls yX4_distanceFromSentence yX4_distanceFromSentence ∈ mv_tb := mv_w 596 (by decide +kernel) (by decide +kernel)
theorem wd_261 : Cond.fieldLink RX9 138 "QuoteGrid$Content" "articles" "[LQuoteGrid$Article;" ∈ mv_tb := mv_w 198 (by decide +kernel) (by decide +kernel)
theorem wd_262 : Cond.fieldLink RX9 142 "QuoteGrid$Article" "length" "I" ∈ mv_tb := mv_w 119 (by decide +kernel) (by decide +kernel)
theorem wd_263 : Cond.methodLink RX9 86 yX4_isMoreOverset ∈ mv_tb := mv_w 582 (by decide +kernel) (by decide +kernel)
theorem wd_264 : Cond.instanceMethod yX4_isMoreOverset ∈ mv_tb := mv_w 583 (by decide +kernel) (by decide +kernel)
theorem wd_265 : Cond.selects yX4_isMoreOverset.cls yX4_isMoreOverset yX4_isMoreOverset ∈ mv_tb := mv_w 584 (by decide +kernel) (by decide +kernel)
theorem wd_266 : Cond.fieldLink RX10 49 "QuoteGrid" "layoutIsOld" "Z" ∈ mv_tb := mv_w 387 (by decide +kernel) (by decide +kernel)
theorem wd_267 : Cond.fieldLink RX10 45 "QuoteGrid" "layout" "LQuoteGrid$Layout;" ∈ mv_tb := mv_w 386 (by decide +kernel) (by decide +kernel)
theorem wd_268 : Cond.fieldLink RX10 12 "QuoteGrid" "state" "LQuoteGrid$State;" ∈ mv_tb := mv_w 381 (by decide +kernel) (by decide +kernel)
theorem wd_269 : Cond.fieldLink RX10 53 "QuoteGrid$State" "content" "LQuoteGrid$Content;" ∈ mv_tb := mv_w 229 (by decide +kernel) (by decide +kernel)
theorem wd_270 : Cond.methodLink RX10 289 yX4_arrange ∈ mv_tb := mv_w 741 (by decide +kernel) (by decide +kernel)
theorem wd_271 : Cond.methodLink RX11 69 yX11_layOut ∈ mv_tb := mv_w 970 (by decide +kernel) (by decide +kernel)
theorem wd_272 : Cond.instanceMethod yX11_layOut ∈ mv_tb := mv_w 972 (by decide +kernel) (by decide +kernel)
theorem wd_273 : Cond.selects yX11_layOut.cls yX11_layOut yX11_layOut ∈ mv_tb := mv_w 32 (by decide +kernel) (by decide +kernel)
theorem wd_274 : Cond.methodLink RX11 79 yX11_moduleOf ∈ mv_tb := mv_w 1017 (by decide +kernel) (by decide +kernel)
theorem wd_275 : Cond.instanceMethod yX11_moduleOf ∈ mv_tb := mv_w 1019 (by decide +kernel) (by decide +kernel)
theorem wd_276 : Cond.selects yX11_moduleOf.cls yX11_moduleOf yX11_moduleOf ∈ mv_tb := mv_w 43 (by decide +kernel) (by decide +kernel)
theorem wd_277 : Cond.methodLink RX11 83 yX11_fromModule ∈ mv_tb := mv_w 1021 (by decide +kernel) (by decide +kernel)
theorem wd_278 : Cond.instanceMethod yX11_fromModule ∈ mv_tb := mv_w 1023 (by decide +kernel) (by decide +kernel)
theorem wd_279 : Cond.selects yX11_fromModule.cls yX11_fromModule yX11_fromModule ∈ mv_tb := mv_w 44 (by decide +kernel) (by decide +kernel)
theorem wd_280 : Cond.methodLink RX11 92 yX11_balance ∈ mv_tb := mv_w 1037 (by decide +kernel) (by decide +kernel)
theorem wd_281 : Cond.instanceMethod yX11_balance ∈ mv_tb := mv_w 1039 (by decide +kernel) (by decide +kernel)
theorem wd_282 : Cond.selects yX11_balance.cls yX11_balance yX11_balance ∈ mv_tb := mv_w 48 (by decide +kernel) (by decide +kernel)
theorem wd_283 : Cond.methodLink RX11 99 yX11_between ∈ mv_tb := mv_w 994 (by decide +kernel) (by decide +kernel)
theorem wd_284 : Cond.instanceMethod yX11_between ∈ mv_tb := mv_w 996 (by decide +kernel) (by decide +kernel)
theorem wd_285 : Cond.selects yX11_between.cls yX11_between yX11_between ∈ mv_tb := mv_w 38 (by decide +kernel) (by decide +kernel)
theorem wd_286 : Cond.methodLink RX11 170 yX11_isSentence ∈ mv_tb := mv_w 931 (by decide +kernel) (by decide +kernel)
theorem wd_287 : Cond.instanceMethod yX11_isSentence ∈ mv_tb := mv_w 933 (by decide +kernel) (by decide +kernel)
theorem wd_288 : Cond.selects yX11_isSentence.cls yX11_isSentence yX11_isSentence ∈ mv_tb := mv_w 25 (by decide +kernel) (by decide +kernel)
theorem wd_289 : Cond.methodLink RX11 173 yX11_putQuote ∈ mv_tb := mv_w 935 (by decide +kernel) (by decide +kernel)
theorem wd_290 : Cond.instanceMethod yX11_putQuote ∈ mv_tb := mv_w 937 (by decide +kernel) (by decide +kernel)
theorem wd_291 : Cond.selects yX11_putQuote.cls yX11_putQuote yX11_putQuote ∈ mv_tb := mv_w 26 (by decide +kernel) (by decide +kernel)
theorem wd_292 : Cond.methodLink RX11 210 yX11_readsSentences ∈ mv_tb := mv_w 1113 (by decide +kernel) (by decide +kernel)
theorem wd_293 : Cond.instanceMethod yX11_readsSentences ∈ mv_tb := mv_w 1115 (by decide +kernel) (by decide +kernel)
theorem wd_294 : Cond.selects yX11_readsSentences.cls yX11_readsSentences yX11_readsSentences ∈ mv_tb := mv_w 57 (by decide +kernel) (by decide +kernel)
theorem wd_295 : Cond.methodLink RX11 232 yX11_takenMany ∈ mv_tb := mv_w 1133 (by decide +kernel) (by decide +kernel)
theorem wd_296 : Cond.instanceMethod yX11_takenMany ∈ mv_tb := mv_w 1135 (by decide +kernel) (by decide +kernel)
theorem wd_297 : Cond.selects yX11_takenMany.cls yX11_takenMany yX11_takenMany ∈ mv_tb := mv_w 61 (by decide +kernel) (by decide +kernel)
theorem wd_298 : Cond.methodLink RX6 73 yX1_newArticle ∈ mv_tb := mv_w 716 (by decide +kernel) (by decide +kernel)
theorem wd_299 : Cond.instanceMethod yX1_newArticle ∈ mv_tb := mv_w 446 (by decide +kernel) (by decide +kernel)
theorem wd_300 : Cond.selects yX1_newArticle.cls yX1_newArticle yX1_newArticle ∈ mv_tb := mv_w 447 (by decide +kernel) (by decide +kernel)
theorem wd_301 : Cond.methodLink RX6 84 yX6_readLines ∈ mv_tb := mv_w 718 (by decide +kernel) (by decide +kernel)
theorem wd_302 : Cond.instanceMethod yX6_readLines ∈ mv_tb := mv_w 720 (by decide +kernel) (by decide +kernel)
theorem wd_303 : Cond.selects yX6_readLines.cls yX6_readLines yX6_readLines ∈ mv_tb := mv_w 12 (by decide +kernel) (by decide +kernel)
theorem wd_304 : Cond.fieldLink RX9 90 "QuoteGrid$Quote" "article" "I" ∈ mv_tb := mv_w 141 (by decide +kernel) (by decide +kernel)
theorem wd_305 : Cond.fieldLink RX9 93 "QuoteGrid$Content" "articleCount" "I" ∈ mv_tb := mv_w 210 (by decide +kernel) (by decide +kernel)
theorem wd_306 : Cond.fieldLink RX9 96 "QuoteGrid$Layout" "flows" "[LQuoteGrid$Flow;" ∈ mv_tb := mv_w 348 (by decide +kernel) (by decide +kernel)
theorem wd_307 : Cond.methodLink RX9 100 yX2_hasLineOn ∈ mv_tb := mv_w 586 (by decide +kernel) (by decide +kernel)
theorem wd_308 : Cond.instanceMethod yX2_hasLineOn ∈ mv_tb := mv_w 587 (by decide +kernel) (by decide +kernel)
theorem wd_309 : Cond.selects yX2_hasLineOn.cls yX2_hasLineOn yX2_hasLineOn ∈ mv_tb := mv_w 588 (by decide +kernel) (by decide +kernel)
theorem wd_310 : Cond.methodLink RX9 106 yX9_isBadlyDistant ∈ mv_tb := mv_w 590 (by decide +kernel) (by decide +kernel)
theorem wd_311 : Cond.instanceMethod yX9_isBadlyDistant ∈ mv_tb := mv_w 592 (by decide +kernel) (by decide +kernel)
theorem wd_312 : Cond.selects yX9_isBadlyDistant.cls yX9_isBadlyDistant yX9_isBadlyDistant ∈ mv_tb := mv_w 5 (by decide +kernel) (by decide +kernel)
theorem wd_313 : Cond.methodLink RX9 49 yX5_moveTo ∈ mv_tb := mv_w 555 (by decide +kernel) (by decide +kernel)
theorem wd_314 : Cond.instanceMethod yX5_moveTo ∈ mv_tb := mv_w 556 (by decide +kernel) (by decide +kernel)
theorem wd_315 : Cond.selects yX5_moveTo.cls yX5_moveTo yX5_moveTo ∈ mv_tb := mv_w 557 (by decide +kernel) (by decide +kernel)
theorem wd_316 : Cond.methodLink RX9 134 yX1_unrest ∈ mv_tb := mv_w 643 (by decide +kernel) (by decide +kernel)
theorem wd_317 : Cond.instanceMethod yX1_unrest ∈ mv_tb := mv_w 611 (by decide +kernel) (by decide +kernel)
theorem wd_318 : Cond.selects yX1_unrest.cls yX1_unrest yX1_unrest ∈ mv_tb := mv_w 612 (by decide +kernel) (by decide +kernel)
theorem wd_319 : Cond.fieldLink RX10 19 "QuoteGrid" "history" "LQuoteGrid$History;" ∈ mv_tb := mv_w 382 (by decide +kernel) (by decide +kernel)
theorem wd_320 : Cond.fieldLink RX10 182 "QuoteGrid$History" "size" "I" ∈ mv_tb := mv_w 253 (by decide +kernel) (by decide +kernel)
theorem wd_321 : Cond.methodLink RX10 185 yX3_giveBackTo ∈ mv_tb := mv_w 666 (by decide +kernel) (by decide +kernel)
theorem wd_322 : Cond.instanceMethod yX3_giveBackTo ∈ mv_tb := mv_w 667 (by decide +kernel) (by decide +kernel)
theorem wd_323 : Cond.selects yX3_giveBackTo.cls yX3_giveBackTo yX3_giveBackTo ∈ mv_tb := mv_w 668 (by decide +kernel) (by decide +kernel)
theorem wd_324 : Cond.fieldLink RX10 65 "QuoteGrid$Content" "articleCount" "I" ∈ mv_tb := mv_w 207 (by decide +kernel) (by decide +kernel)
theorem wd_325 : Cond.fieldLink RX10 115 "QuoteGrid$Content" "quoteCount" "I" ∈ mv_tb := mv_w 215 (by decide +kernel) (by decide +kernel)
theorem wd_326 : Cond.methodLink RX10 179 yX1_placedQuotes ∈ mv_tb := mv_w 654 (by decide +kernel) (by decide +kernel)
theorem wd_327 : Cond.instanceMethod yX1_placedQuotes ∈ mv_tb := mv_w 655 (by decide +kernel) (by decide +kernel)
theorem wd_328 : Cond.selects yX1_placedQuotes.cls yX1_placedQuotes yX1_placedQuotes ∈ mv_tb := mv_w 656 (by decide +kernel) (by decide +kernel)
theorem wd_329 : Cond.fieldLink RX10 163 "QuoteGrid$Content" "rules" "[I" ∈ mv_tb := mv_w 205 (by decide +kernel) (by decide +kernel)
theorem wd_330 : Cond.methodLink RX10 211 yX10_currentLayout ∈ mv_tb := mv_w 737 (by decide +kernel) (by decide +kernel)
theorem wd_331 : Cond.instanceMethod yX10_currentLayout ∈ mv_tb := mv_w 739 (by decide +kernel) (by decide +kernel)
theorem wd_332 : Cond.selects yX10_currentLayout.cls yX10_currentLayout yX10_currentLayout ∈ mv_tb := mv_w 15 (by decide +kernel) (by decide +kernel)
theorem wd_333 : Cond.methodLink RX10 215 yX4_oversetInAll ∈ mv_tb := mv_w 742 (by decide +kernel) (by decide +kernel)
theorem wd_334 : Cond.instanceMethod yX4_oversetInAll ∈ mv_tb := mv_w 743 (by decide +kernel) (by decide +kernel)
theorem wd_335 : Cond.selects yX4_oversetInAll.cls yX4_oversetInAll yX4_oversetInAll ∈ mv_tb := mv_w 744 (by decide +kernel) (by decide +kernel)
theorem wd_336 : Cond.methodLink RX10 218 yX4_jumpsInAll ∈ mv_tb := mv_w 746 (by decide +kernel) (by decide +kernel)
theorem wd_337 : Cond.instanceMethod yX4_jumpsInAll ∈ mv_tb := mv_w 747 (by decide +kernel) (by decide +kernel)
theorem wd_338 : Cond.selects yX4_jumpsInAll.cls yX4_jumpsInAll yX4_jumpsInAll ∈ mv_tb := mv_w 748 (by decide +kernel) (by decide +kernel)
theorem wd_339 : Cond.methodLink RX10 221 yX4_takenBetween ∈ mv_tb := mv_w 750 (by decide +kernel) (by decide +kernel)
theorem wd_340 : Cond.instanceMethod yX4_takenBetween ∈ mv_tb := mv_w 751 (by decide +kernel) (by decide +kernel)
theorem wd_341 : Cond.selects yX4_takenBetween.cls yX4_takenBetween yX4_takenBetween ∈ mv_tb := mv_w 752 (by decide +kernel) (by decide +kernel)
theorem wd_342 : Cond.methodLink RX10 151 yX1_unrest ∈ mv_tb := mv_w 610 (by decide +kernel) (by decide +kernel)
theorem wd_343 : Cond.methodLink RX10 224 yX7_snapshotCount ∈ mv_tb := mv_w 754 (by decide +kernel) (by decide +kernel)
theorem wd_344 : Cond.instanceMethod yX7_snapshotCount ∈ mv_tb := mv_w 755 (by decide +kernel) (by decide +kernel)
theorem wd_345 : Cond.selects yX7_snapshotCount.cls yX7_snapshotCount yX7_snapshotCount ∈ mv_tb := mv_w 756 (by decide +kernel) (by decide +kernel)
theorem wd_346 : Cond.methodLink RX10 78 yX1_hasArticle ∈ mv_tb := mv_w 453 (by decide +kernel) (by decide +kernel)
theorem wd_347 : Cond.fieldLink RX10 85 "QuoteGrid$Content" "articles" "[LQuoteGrid$Article;" ∈ mv_tb := mv_w 196 (by decide +kernel) (by decide +kernel)
theorem wd_348 : Cond.fieldLink RX10 227 "QuoteGrid$Layout" "flows" "[LQuoteGrid$Flow;" ∈ mv_tb := mv_w 349 (by decide +kernel) (by decide +kernel)
theorem wd_349 : Cond.fieldLink RX10 89 "QuoteGrid$Article" "start" "I" ∈ mv_tb := mv_w 112 (by decide +kernel) (by decide +kernel)
theorem wd_350 : Cond.fieldLink RX10 98 "QuoteGrid$Article" "length" "I" ∈ mv_tb := mv_w 117 (by decide +kernel) (by decide +kernel)
theorem wd_351 : Cond.fieldLink RX10 105 "QuoteGrid$Article" "sentenceCount" "I" ∈ mv_tb := mv_w 122 (by decide +kernel) (by decide +kernel)
theorem wd_352 : Cond.fieldLink RX10 231 "QuoteGrid$Flow" "overset" "I" ∈ mv_tb := mv_w 330 (by decide +kernel) (by decide +kernel)
theorem wd_353 : Cond.fieldLink RX10 236 "QuoteGrid$Flow" "jumps" "I" ∈ mv_tb := mv_w 333 (by decide +kernel) (by decide +kernel)
theorem wd_354 : Cond.methodLink RX10 239 yX2_moduleOf ∈ mv_tb := mv_w 762 (by decide +kernel) (by decide +kernel)
theorem wd_355 : Cond.fieldLink RX10 242 "QuoteGrid$Flow" "laid" "I" ∈ mv_tb := mv_w 327 (by decide +kernel) (by decide +kernel)
theorem wd_356 : Cond.methodLink RX10 101 yX1_hasLine ∈ mv_tb := mv_w 486 (by decide +kernel) (by decide +kernel)
theorem wd_357 : Cond.instanceMethod yX1_hasLine ∈ mv_tb := mv_w 487 (by decide +kernel) (by decide +kernel)
theorem wd_358 : Cond.selects yX1_hasLine.cls yX1_hasLine yX1_hasLine ∈ mv_tb := mv_w 488 (by decide +kernel) (by decide +kernel)
theorem wd_359 : Cond.methodLink RX10 112 yX1_hasSentence ∈ mv_tb := mv_w 498 (by decide +kernel) (by decide +kernel)
theorem wd_360 : Cond.instanceMethod yX1_hasSentence ∈ mv_tb := mv_w 499 (by decide +kernel) (by decide +kernel)
theorem wd_361 : Cond.selects yX1_hasSentence.cls yX1_hasSentence yX1_hasSentence ∈ mv_tb := mv_w 500 (by decide +kernel) (by decide +kernel)
theorem wd_362 : Cond.fieldLink RX10 245 "QuoteGrid$Article" "lines" "[I" ∈ mv_tb := mv_w 109 (by decide +kernel) (by decide +kernel)
theorem wd_363 : Cond.methodLink RX10 122 yX1_hasQuote ∈ mv_tb := mv_w 510 (by decide +kernel) (by decide +kernel)
theorem wd_364 : Cond.fieldLink RX10 142 "QuoteGrid$Content" "quotes" "[LQuoteGrid$Quote;" ∈ mv_tb := mv_w 202 (by decide +kernel) (by decide +kernel)
theorem wd_365 : Cond.fieldLink RX10 248 "QuoteGrid$Quote" "article" "I" ∈ mv_tb := mv_w 144 (by decide +kernel) (by decide +kernel)
theorem wd_366 : Cond.fieldLink RX10 251 "QuoteGrid$Quote" "sentence" "I" ∈ mv_tb := mv_w 148 (by decide +kernel) (by decide +kernel)
theorem wd_367 : Cond.fieldLink RX10 254 "QuoteGrid$Quote" "width" "I" ∈ mv_tb := mv_w 153 (by decide +kernel) (by decide +kernel)
theorem wd_368 : Cond.fieldLink RX10 257 "QuoteGrid$Quote" "height" "I" ∈ mv_tb := mv_w 158 (by decide +kernel) (by decide +kernel)
theorem wd_369 : Cond.fieldLink RX10 154 "QuoteGrid$Quote" "placed" "Z" ∈ mv_tb := mv_w 163 (by decide +kernel) (by decide +kernel)
theorem wd_370 : Cond.fieldLink RX10 260 "QuoteGrid$Quote" "page" "I" ∈ mv_tb := mv_w 168 (by decide +kernel) (by decide +kernel)
theorem wd_371 : Cond.fieldLink RX10 263 "QuoteGrid$Quote" "column" "I" ∈ mv_tb := mv_w 172 (by decide +kernel) (by decide +kernel)
theorem wd_372 : Cond.fieldLink RX10 266 "QuoteGrid$Quote" "row" "I" ∈ mv_tb := mv_w 176 (by decide +kernel) (by decide +kernel)
theorem wd_373 : Cond.methodLink RX10 269 yX4_distanceFromSentence ∈ mv_tb := mv_w 775 (by decide +kernel) (by decide +kernel)
theorem wd_374 : Cond.static yX10_isModule ∈ mv_tb := mv_w 408 (by decide +kernel) (by decide +kernel)
theorem wd_375 : Cond.methodLink RX10 57 yX10_isModule ∈ mv_tb := mv_w 407 (by decide +kernel) (by decide +kernel)
theorem wd_376 : Cond.fieldLink RX10 273 "QuoteGrid$Layout" "takers" "[I" ∈ mv_tb := mv_w 346 (by decide +kernel) (by decide +kernel)
theorem wd_377 : Cond.methodLink RX10 276 yX1_balanceOf ∈ mv_tb := mv_w 784 (by decide +kernel) (by decide +kernel)
theorem wd_378 : Cond.fieldLink RX10 38 "QuoteGrid" "trial" "LQuoteGrid$Trial;" ∈ mv_tb := mv_w 385 (by decide +kernel) (by decide +kernel)
theorem wd_379 : Cond.methodLink RX10 282 yX9_greatestLength ∈ mv_tb := mv_w 801 (by decide +kernel) (by decide +kernel)
theorem wd_380 : Cond.instanceMethod yX9_greatestLength ∈ mv_tb := mv_w 802 (by decide +kernel) (by decide +kernel)
theorem wd_381 : Cond.selects yX9_greatestLength.cls yX9_greatestLength yX9_greatestLength ∈ mv_tb := mv_w 803 (by decide +kernel) (by decide +kernel)
theorem wd_382 : Cond.methodLink RX10 286 yX3_keep ∈ mv_tb := mv_w 417 (by decide +kernel) (by decide +kernel)
theorem wd_383 : Cond.instanceMethod yX3_keep ∈ mv_tb := mv_w 418 (by decide +kernel) (by decide +kernel)
theorem wd_384 : Cond.selects yX3_keep.cls yX3_keep yX3_keep ∈ mv_tb := mv_w 419 (by decide +kernel) (by decide +kernel)
theorem wd_385 : Cond.methodLink RX11 86 yX11_fromSentence ∈ mv_tb := mv_w 1013 (by decide +kernel) (by decide +kernel)
theorem wd_386 : Cond.instanceMethod yX11_fromSentence ∈ mv_tb := mv_w 1015 (by decide +kernel) (by decide +kernel)
theorem wd_387 : Cond.selects yX11_fromSentence.cls yX11_fromSentence yX11_fromSentence ∈ mv_tb := mv_w 42 (by decide +kernel) (by decide +kernel)
theorem wd_388 : Cond.methodLink RX11 131 yX11_noteOver ∈ mv_tb := mv_w 966 (by decide +kernel) (by decide +kernel)
theorem wd_389 : Cond.instanceMethod yX11_noteOver ∈ mv_tb := mv_w 968 (by decide +kernel) (by decide +kernel)
theorem wd_390 : Cond.selects yX11_noteOver.cls yX11_noteOver yX11_noteOver ∈ mv_tb := mv_w 31 (by decide +kernel) (by decide +kernel)
theorem wd_391 : Cond.methodLink RX11 150 yX11_unrest ∈ mv_tb := mv_w 1033 (by decide +kernel) (by decide +kernel)
theorem wd_392 : Cond.instanceMethod yX11_unrest ∈ mv_tb := mv_w 1035 (by decide +kernel) (by decide +kernel)
theorem wd_393 : Cond.selects yX11_unrest.cls yX11_unrest yX11_unrest ∈ mv_tb := mv_w 47 (by decide +kernel) (by decide +kernel)
theorem wd_394 : Cond.methodLink RX11 213 yX11_readsArticle ∈ mv_tb := mv_w 1104 (by decide +kernel) (by decide +kernel)
theorem wd_395 : Cond.instanceMethod yX11_readsArticle ∈ mv_tb := mv_w 1106 (by decide +kernel) (by decide +kernel)
theorem wd_396 : Cond.selects yX11_readsArticle.cls yX11_readsArticle yX11_readsArticle ∈ mv_tb := mv_w 55 (by decide +kernel) (by decide +kernel)
theorem wd_397 : Cond.methodLink RX11 216 yX11_readsQuote ∈ mv_tb := mv_w 1117 (by decide +kernel) (by decide +kernel)
theorem wd_398 : Cond.instanceMethod yX11_readsQuote ∈ mv_tb := mv_w 1119 (by decide +kernel) (by decide +kernel)
theorem wd_399 : Cond.selects yX11_readsQuote.cls yX11_readsQuote yX11_readsQuote ∈ mv_tb := mv_w 58 (by decide +kernel) (by decide +kernel)
theorem wd_400 : Cond.methodLink RX11 228 yX11_sum ∈ mv_tb := mv_w 1129 (by decide +kernel) (by decide +kernel)
theorem wd_401 : Cond.instanceMethod yX11_sum ∈ mv_tb := mv_w 1131 (by decide +kernel) (by decide +kernel)
theorem wd_402 : Cond.selects yX11_sum.cls yX11_sum yX11_sum ∈ mv_tb := mv_w 60 (by decide +kernel) (by decide +kernel)
theorem wd_403 : Cond.methodLink RX11 108 yX11_isMoreOver ∈ mv_tb := mv_w 1001 (by decide +kernel) (by decide +kernel)
theorem wd_404 : Cond.instanceMethod yX11_isMoreOver ∈ mv_tb := mv_w 1003 (by decide +kernel) (by decide +kernel)
theorem wd_405 : Cond.selects yX11_isMoreOver.cls yX11_isMoreOver yX11_isMoreOver ∈ mv_tb := mv_w 39 (by decide +kernel) (by decide +kernel)
theorem wd_406 : Cond.methodLink RX6 53 yX6_readArticle ∈ mv_tb := mv_w 699 (by decide +kernel) (by decide +kernel)
theorem wd_407 : Cond.instanceMethod yX6_readArticle ∈ mv_tb := mv_w 701 (by decide +kernel) (by decide +kernel)
theorem wd_408 : Cond.selects yX6_readArticle.cls yX6_readArticle yX6_readArticle ∈ mv_tb := mv_w 9 (by decide +kernel) (by decide +kernel)
theorem wd_409 : Cond.fieldLink RX6 56 "QuoteGrid$Content" "quoteCount" "I" ∈ mv_tb := mv_w 214 (by decide +kernel) (by decide +kernel)
theorem wd_410 : Cond.methodLink RX6 59 yX6_readQuote ∈ mv_tb := mv_w 723 (by decide +kernel) (by decide +kernel)
theorem wd_411 : Cond.instanceMethod yX6_readQuote ∈ mv_tb := mv_w 725 (by decide +kernel) (by decide +kernel)
theorem wd_412 : Cond.selects yX6_readQuote.cls yX6_readQuote yX6_readQuote ∈ mv_tb := mv_w 13 (by decide +kernel) (by decide +kernel)
theorem wd_413 : Cond.fieldLink RX9 53 "QuoteGrid$Quote" "column" "I" ∈ mv_tb := mv_w 171 (by decide +kernel) (by decide +kernel)
theorem wd_414 : Cond.fieldLink RX9 56 "QuoteGrid$Quote" "width" "I" ∈ mv_tb := mv_w 151 (by decide +kernel) (by decide +kernel)
theorem wd_415 : Cond.fieldLink RX9 59 "QuoteGrid$Quote" "row" "I" ∈ mv_tb := mv_w 175 (by decide +kernel) (by decide +kernel)
theorem wd_416 : Cond.fieldLink RX9 62 "QuoteGrid$Quote" "height" "I" ∈ mv_tb := mv_w 156 (by decide +kernel) (by decide +kernel)
theorem wd_417 : Cond.methodLink RX9 65 yX9_isTooNearToAnother ∈ mv_tb := mv_w 566 (by decide +kernel) (by decide +kernel)
theorem wd_418 : Cond.instanceMethod yX9_isTooNearToAnother ∈ mv_tb := mv_w 568 (by decide +kernel) (by decide +kernel)
theorem wd_419 : Cond.selects yX9_isTooNearToAnother.cls yX9_isTooNearToAnother yX9_isTooNearToAnother ∈ mv_tb := mv_w 3 (by decide +kernel) (by decide +kernel)
theorem wd_420 : Cond.methodLink RX9 69 yX9_reasonInLayout ∈ mv_tb := mv_w 578 (by decide +kernel) (by decide +kernel)
theorem wd_421 : Cond.instanceMethod yX9_reasonInLayout ∈ mv_tb := mv_w 580 (by decide +kernel) (by decide +kernel)
theorem wd_422 : Cond.selects yX9_reasonInLayout.cls yX9_reasonInLayout yX9_reasonInLayout ∈ mv_tb := mv_w 4 (by decide +kernel) (by decide +kernel)
theorem wd_423 : Cond.methodLink RX10 71 yX10_beginAction ∈ mv_tb := mv_w 413 (by decide +kernel) (by decide +kernel)
theorem wd_424 : Cond.instanceMethod yX10_beginAction ∈ mv_tb := mv_w 415 (by decide +kernel) (by decide +kernel)
theorem wd_425 : Cond.selects yX10_beginAction.cls yX10_beginAction yX10_beginAction ∈ mv_tb := mv_w 0 (by decide +kernel) (by decide +kernel)
theorem wd_426 : Cond.methodLink RX10 74 yX1_newArticle ∈ mv_tb := mv_w 445 (by decide +kernel) (by decide +kernel)
theorem wd_427 : Cond.methodLink RX10 81 yX1_dropArticle ∈ mv_tb := mv_w 458 (by decide +kernel) (by decide +kernel)
theorem wd_428 : Cond.instanceMethod yX1_dropArticle ∈ mv_tb := mv_w 459 (by decide +kernel) (by decide +kernel)
theorem wd_429 : Cond.selects yX1_dropArticle.cls yX1_dropArticle yX1_dropArticle ∈ mv_tb := mv_w 460 (by decide +kernel) (by decide +kernel)
theorem wd_430 : Cond.methodLink RX10 94 yX0_leastLength ∈ mv_tb := mv_w 475 (by decide +kernel) (by decide +kernel)
theorem wd_431 : Cond.instanceMethod yX0_leastLength ∈ mv_tb := mv_w 476 (by decide +kernel) (by decide +kernel)
theorem wd_432 : Cond.selects yX0_leastLength.cls yX0_leastLength yX0_leastLength ∈ mv_tb := mv_w 477 (by decide +kernel) (by decide +kernel)
theorem wd_433 : Cond.methodLink RX10 108 yX0_newSentence ∈ mv_tb := mv_w 490 (by decide +kernel) (by decide +kernel)
theorem wd_434 : Cond.methodLink RX10 118 yX1_newQuote ∈ mv_tb := mv_w 502 (by decide +kernel) (by decide +kernel)
theorem wd_435 : Cond.methodLink RX10 125 yX1_dropQuote ∈ mv_tb := mv_w 511 (by decide +kernel) (by decide +kernel)
theorem wd_436 : Cond.fieldLink RX10 167 "QuoteGrid$State" "snapshots" "[LQuoteGrid$Content;" ∈ mv_tb := mv_w 231 (by decide +kernel) (by decide +kernel)
theorem wd_437 : Cond.methodLink RX10 171 yX1_copyFrom ∈ mv_tb := mv_w 653 (by decide +kernel) (by decide +kernel)
theorem wd_438 : Cond.fieldLink RX10 175 "QuoteGrid$State" "snapshotTaken" "[Z" ∈ mv_tb := mv_w 233 (by decide +kernel) (by decide +kernel)
theorem wd_439 : Cond.methodLink RX11 102 yX11_isWrongFromSentence ∈ mv_tb := mv_w 1009 (by decide +kernel) (by decide +kernel)
theorem wd_440 : Cond.instanceMethod yX11_isWrongFromSentence ∈ mv_tb := mv_w 1011 (by decide +kernel) (by decide +kernel)
theorem wd_441 : Cond.selects yX11_isWrongFromSentence.cls yX11_isWrongFromSentence yX11_isWrongFromSentence ∈ mv_tb := mv_w 41 (by decide +kernel) (by decide +kernel)
theorem wd_442 : Cond.methodLink RX11 219 yX11_hold ∈ mv_tb := mv_w 1088 (by decide +kernel) (by decide +kernel)
theorem wd_443 : Cond.instanceMethod yX11_hold ∈ mv_tb := mv_w 1090 (by decide +kernel) (by decide +kernel)
theorem wd_444 : Cond.selects yX11_hold.cls yX11_hold yX11_hold ∈ mv_tb := mv_w 51 (by decide +kernel) (by decide +kernel)
theorem wd_445 : Cond.methodLink RX11 222 yX11_readsItem ∈ mv_tb := mv_w 1096 (by decide +kernel) (by decide +kernel)
theorem wd_446 : Cond.instanceMethod yX11_readsItem ∈ mv_tb := mv_w 1098 (by decide +kernel) (by decide +kernel)
theorem wd_447 : Cond.selects yX11_readsItem.cls yX11_readsItem yX11_readsItem ∈ mv_tb := mv_w 53 (by decide +kernel) (by decide +kernel)
theorem wd_448 : Cond.methodLink RX11 225 yX11_exchange ∈ mv_tb := mv_w 1121 (by decide +kernel) (by decide +kernel)
theorem wd_449 : Cond.instanceMethod yX11_exchange ∈ mv_tb := mv_w 1123 (by decide +kernel) (by decide +kernel)
theorem wd_450 : Cond.selects yX11_exchange.cls yX11_exchange yX11_exchange ∈ mv_tb := mv_w 59 (by decide +kernel) (by decide +kernel)
theorem wd_451 : Cond.methodLink RX6 29 yX1_copyFrom ∈ mv_tb := mv_w 686 (by decide +kernel) (by decide +kernel)
theorem wd_452 : Cond.fieldLink RX6 33 "QuoteGrid$Reader" "items" "I" ∈ mv_tb := mv_w 287 (by decide +kernel) (by decide +kernel)
theorem wd_453 : Cond.methodLink RX6 47 yX6_readItem ∈ mv_tb := mv_w 695 (by decide +kernel) (by decide +kernel)
theorem wd_454 : Cond.instanceMethod yX6_readItem ∈ mv_tb := mv_w 697 (by decide +kernel) (by decide +kernel)
theorem wd_455 : Cond.selects yX6_readItem.cls yX6_readItem yX6_readItem ∈ mv_tb := mv_w 8 (by decide +kernel) (by decide +kernel)
theorem wd_456 : Cond.methodLink RX9 117 yX9_prepare ∈ mv_tb := mv_w 638 (by decide +kernel) (by decide +kernel)
theorem wd_457 : Cond.instanceMethod yX9_prepare ∈ mv_tb := mv_w 523 (by decide +kernel) (by decide +kernel)
theorem wd_458 : Cond.selects yX9_prepare.cls yX9_prepare yX9_prepare ∈ mv_tb := mv_w 524 (by decide +kernel) (by decide +kernel)
theorem wd_459 : Cond.fieldLink RX9 121 "QuoteGrid$Trial" "bestModule" "I" ∈ mv_tb := mv_w 362 (by decide +kernel) (by decide +kernel)
theorem wd_460 : Cond.fieldLink RX9 124 "QuoteGrid$Trial" "bestUnrest" "I" ∈ mv_tb := mv_w 364 (by decide +kernel) (by decide +kernel)
theorem wd_461 : Cond.methodLink RX9 127 yX9_unrestAt ∈ mv_tb := mv_w 639 (by decide +kernel) (by decide +kernel)
theorem wd_462 : Cond.instanceMethod yX9_unrestAt ∈ mv_tb := mv_w 641 (by decide +kernel) (by decide +kernel)
theorem wd_463 : Cond.selects yX9_unrestAt.cls yX9_unrestAt yX9_unrestAt ∈ mv_tb := mv_w 6 (by decide +kernel) (by decide +kernel)
theorem wd_464 : Cond.methodLink RX9 131 yX9_reasonAt ∈ mv_tb := mv_w 644 (by decide +kernel) (by decide +kernel)
theorem wd_465 : Cond.instanceMethod yX9_reasonAt ∈ mv_tb := mv_w 552 (by decide +kernel) (by decide +kernel)
theorem wd_466 : Cond.selects yX9_reasonAt.cls yX9_reasonAt yX9_reasonAt ∈ mv_tb := mv_w 553 (by decide +kernel) (by decide +kernel)
theorem wd_467 : Cond.static yX10_isPlace ∈ mv_tb := mv_w 517 (by decide +kernel) (by decide +kernel)
theorem wd_468 : Cond.methodLink RX10 128 yX10_isPlace ∈ mv_tb := mv_w 516 (by decide +kernel) (by decide +kernel)
theorem wd_469 : Cond.methodLink RX10 131 yX10_moduleAt ∈ mv_tb := mv_w 519 (by decide +kernel) (by decide +kernel)
theorem wd_470 : Cond.methodLink RX10 135 yX9_prepare ∈ mv_tb := mv_w 522 (by decide +kernel) (by decide +kernel)
theorem wd_471 : Cond.methodLink RX10 139 yX9_reasonAt ∈ mv_tb := mv_w 551 (by decide +kernel) (by decide +kernel)
theorem wd_472 : Cond.methodLink RX10 146 yX5_moveTo ∈ mv_tb := mv_w 609 (by decide +kernel) (by decide +kernel)
theorem wd_473 : Cond.methodLink RX11 105 yX11_isNear ∈ mv_tb := mv_w 990 (by decide +kernel) (by decide +kernel)
theorem wd_474 : Cond.instanceMethod yX11_isNear ∈ mv_tb := mv_w 992 (by decide +kernel) (by decide +kernel)
theorem wd_475 : Cond.selects yX11_isNear.cls yX11_isNear yX11_isNear ∈ mv_tb := mv_w 37 (by decide +kernel) (by decide +kernel)
theorem wd_476 : Cond.methodLink RX11 112 yX11_hasLineOn ∈ mv_tb := mv_w 1005 (by decide +kernel) (by decide +kernel)
theorem wd_477 : Cond.instanceMethod yX11_hasLineOn ∈ mv_tb := mv_w 1007 (by decide +kernel) (by decide +kernel)
theorem wd_478 : Cond.selects yX11_hasLineOn.cls yX11_hasLineOn yX11_hasLineOn ∈ mv_tb := mv_w 40 (by decide +kernel) (by decide +kernel)
theorem wd_479 : Cond.methodLink RX11 116 yX11_isWrongForOthers ∈ mv_tb := mv_w 1025 (by decide +kernel) (by decide +kernel)
theorem wd_480 : Cond.instanceMethod yX11_isWrongForOthers ∈ mv_tb := mv_w 1027 (by decide +kernel) (by decide +kernel)
theorem wd_481 : Cond.selects yX11_isWrongForOthers.cls yX11_isWrongForOthers yX11_isWrongForOthers ∈ mv_tb := mv_w 45 (by decide +kernel) (by decide +kernel)
theorem wd_482 : Cond.methodLink RX10 157 yX9_seekBest ∈ mv_tb := mv_w 634 (by decide +kernel) (by decide +kernel)
theorem wd_483 : Cond.instanceMethod yX9_seekBest ∈ mv_tb := mv_w 635 (by decide +kernel) (by decide +kernel)
theorem wd_484 : Cond.selects yX9_seekBest.cls yX9_seekBest yX9_seekBest ∈ mv_tb := mv_w 636 (by decide +kernel) (by decide +kernel)
theorem wd_485 : Cond.fieldLink RX10 160 "QuoteGrid$Trial" "bestModule" "I" ∈ mv_tb := mv_w 363 (by decide +kernel) (by decide +kernel)
theorem wd_486 : Cond.fieldLink RX10 26 "QuoteGrid" "reader" "LQuoteGrid$Reader;" ∈ mv_tb := mv_w 383 (by decide +kernel) (by decide +kernel)
theorem wd_487 : Cond.methodLink RX10 195 yX6_read ∈ mv_tb := mv_w 682 (by decide +kernel) (by decide +kernel)
theorem wd_488 : Cond.instanceMethod yX6_read ∈ mv_tb := mv_w 683 (by decide +kernel) (by decide +kernel)
theorem wd_489 : Cond.selects yX6_read.cls yX6_read yX6_read ∈ mv_tb := mv_w 684 (by decide +kernel) (by decide +kernel)
theorem wd_490 : Cond.methodLink RX10 198 yX6_hasFailed ∈ mv_tb := mv_w 732 (by decide +kernel) (by decide +kernel)
theorem wd_491 : Cond.fieldLink RX10 202 "QuoteGrid$Reader" "errorPosition" "I" ∈ mv_tb := mv_w 290 (by decide +kernel) (by decide +kernel)
theorem wd_492 : Cond.fieldLink RX10 205 "QuoteGrid$Reader" "draft" "LQuoteGrid$Content;" ∈ mv_tb := mv_w 286 (by decide +kernel) (by decide +kernel)
theorem wd_493 : Cond.fieldLink RX10 208 "QuoteGrid$Reader" "items" "I" ∈ mv_tb := mv_w 288 (by decide +kernel) (by decide +kernel)
theorem wd_494 : Cond.fieldLink RX10 279 "QuoteGrid$Trial" "bestUnrest" "I" ∈ mv_tb := mv_w 365 (by decide +kernel) (by decide +kernel)
theorem wd_495 : Cond.methodLink RX11 138 yX11_takeUp ∈ mv_tb := mv_w 962 (by decide +kernel) (by decide +kernel)
theorem wd_496 : Cond.instanceMethod yX11_takeUp ∈ mv_tb := mv_w 964 (by decide +kernel) (by decide +kernel)
theorem wd_497 : Cond.selects yX11_takeUp.cls yX11_takeUp yX11_takeUp ∈ mv_tb := mv_w 30 (by decide +kernel) (by decide +kernel)
theorem wd_498 : Cond.methodLink RX11 141 yX11_reasonOf ∈ mv_tb := mv_w 986 (by decide +kernel) (by decide +kernel)
theorem wd_499 : Cond.instanceMethod yX11_reasonOf ∈ mv_tb := mv_w 988 (by decide +kernel) (by decide +kernel)
theorem wd_500 : Cond.selects yX11_reasonOf.cls yX11_reasonOf yX11_reasonOf ∈ mv_tb := mv_w 36 (by decide +kernel) (by decide +kernel)
theorem wd_501 : Cond.methodLink RX11 144 yX11_putBack ∈ mv_tb := mv_w 1029 (by decide +kernel) (by decide +kernel)
theorem wd_502 : Cond.instanceMethod yX11_putBack ∈ mv_tb := mv_w 1031 (by decide +kernel) (by decide +kernel)
theorem wd_503 : Cond.selects yX11_putBack.cls yX11_putBack yX11_putBack ∈ mv_tb := mv_w 46 (by decide +kernel) (by decide +kernel)
theorem wd_504 : Cond.fieldLink RX11 147 "QuoteGridModel" "bestUnrest" "I" ∈ mv_tb := mv_w 827 (by decide +kernel) (by decide +kernel)
theorem wd_505 : Cond.static yX11_isPlace ∈ mv_tb := mv_w 956 (by decide +kernel) (by decide +kernel)
theorem wd_506 : Cond.methodLink RX11 179 yX11_isPlace ∈ mv_tb := mv_w 955 (by decide +kernel) (by decide +kernel)
theorem wd_507 : Cond.methodLink RX11 182 yX11_refusalOf ∈ mv_tb := mv_w 958 (by decide +kernel) (by decide +kernel)
theorem wd_508 : Cond.instanceMethod yX11_refusalOf ∈ mv_tb := mv_w 960 (by decide +kernel) (by decide +kernel)
theorem wd_509 : Cond.selects yX11_refusalOf.cls yX11_refusalOf yX11_refusalOf ∈ mv_tb := mv_w 29 (by decide +kernel) (by decide +kernel)
theorem wd_510 : Cond.methodLink RX11 185 yX11_best ∈ mv_tb := mv_w 1052 (by decide +kernel) (by decide +kernel)
theorem wd_511 : Cond.instanceMethod yX11_best ∈ mv_tb := mv_w 1054 (by decide +kernel) (by decide +kernel)
theorem wd_512 : Cond.selects yX11_best.cls yX11_best yX11_best ∈ mv_tb := mv_w 49 (by decide +kernel) (by decide +kernel)
theorem wd_513 : Cond.code yX0_copyFrom cX0_copyFrom 2 none ∈ mv_tb := mv_w 436 (by decide +kernel) (by decide +kernel)
theorem wd_514 : Cond.initialized RX0 ∈ mv_tb := mv_w 66 (by decide +kernel) (by decide +kernel)
theorem wd_515 : Cond.code yX0_newSentence cX0_newSentence 2 (some .int) ∈ mv_tb := mv_w 493 (by decide +kernel) (by decide +kernel)
theorem wd_516 : Cond.code yX1_newArticle cX1_newArticle 4 (some .int) ∈ mv_tb := mv_w 448 (by decide +kernel) (by decide +kernel)
theorem wd_517 : Cond.initialized RX1 ∈ mv_tb := mv_w 65 (by decide +kernel) (by decide +kernel)
theorem wd_518 : Cond.code yX1_newQuote cX1_newQuote 6 (some .int) ∈ mv_tb := mv_w 505 (by decide +kernel) (by decide +kernel)
theorem wd_519 : Cond.code yX1_placedQuotes cX1_placedQuotes 3 (some .int) ∈ mv_tb := mv_w 657 (by decide +kernel) (by decide +kernel)
theorem wd_520 : Cond.code yX2_hasLineOn cX2_hasLineOn 2 (some .boolean) ∈ mv_tb := mv_w 589 (by decide +kernel) (by decide +kernel)
theorem wd_521 : Cond.initialized RX2 ∈ mv_tb := mv_w 73 (by decide +kernel) (by decide +kernel)
theorem wd_522 : Cond.code yX3_dropOldest cX3_dropOldest 3 none ∈ mv_tb := mv_w 424 (by decide +kernel) (by decide +kernel)
theorem wd_523 : Cond.initialized RX3 ∈ mv_tb := mv_w 68 (by decide +kernel) (by decide +kernel)
theorem wd_524 : Cond.code yX4_takenBetween cX4_takenBetween 6 (some .int) ∈ mv_tb := mv_w 753 (by decide +kernel) (by decide +kernel)
theorem wd_525 : Cond.initialized RX4 ∈ mv_tb := mv_w 72 (by decide +kernel) (by decide +kernel)
theorem wd_526 : Cond.code yX4_oversetInAll cX4_oversetInAll 3 (some .int) ∈ mv_tb := mv_w 745 (by decide +kernel) (by decide +kernel)
theorem wd_527 : Cond.code yX4_jumpsInAll cX4_jumpsInAll 3 (some .int) ∈ mv_tb := mv_w 749 (by decide +kernel) (by decide +kernel)
theorem wd_528 : Cond.code yX4_isMoreOverset cX4_isMoreOverset 3 (some .boolean) ∈ mv_tb := mv_w 585 (by decide +kernel) (by decide +kernel)
theorem wd_529 : Cond.code yX5_copyFrom cX5_copyFrom 2 none ∈ mv_tb := mv_w 443 (by decide +kernel) (by decide +kernel)
theorem wd_530 : Cond.initialized RX5 ∈ mv_tb := mv_w 67 (by decide +kernel) (by decide +kernel)
theorem wd_531 : Cond.code yX6_hasFailed cX6_hasFailed 1 (some .boolean) ∈ mv_tb := mv_w 690 (by decide +kernel) (by decide +kernel)
theorem wd_532 : Cond.initialized RX6 ∈ mv_tb := mv_w 69 (by decide +kernel) (by decide +kernel)
theorem wd_533 : Cond.code yX6_nextSign cX6_nextSign 1 (some .int) ∈ mv_tb := mv_w 694 (by decide +kernel) (by decide +kernel)
theorem wd_534 : Cond.code yX7_snapshotCount cX7_snapshotCount 3 (some .int) ∈ mv_tb := mv_w 757 (by decide +kernel) (by decide +kernel)
theorem wd_535 : Cond.initialized RX7 ∈ mv_tb := mv_w 64 (by decide +kernel) (by decide +kernel)
theorem wd_536 : Cond.code yX10_clearText cX10_clearText 2 (some .int) ∈ mv_tb := mv_w 677 (by decide +kernel) (by decide +kernel)
theorem wd_537 : Cond.initialized RX10 ∈ mv_tb := mv_w 63 (by decide +kernel) (by decide +kernel)
theorem wd_538 : Cond.code yX10_isWithin cX10_isWithin 3 (some .boolean) ∈ mv_tb := mv_w 412 (by decide +kernel) (by decide +kernel)
theorem wd_539 : Cond.code yX10_moduleAt cX10_moduleAt 3 (some .int) ∈ mv_tb := mv_w 521 (by decide +kernel) (by decide +kernel)
theorem wd_540 : Cond.code yX10_pageOf cX10_pageOf 1 (some .int) ∈ mv_tb := mv_w 550 (by decide +kernel) (by decide +kernel)
theorem wd_541 : Cond.code yX10_columnOf cX10_columnOf 1 (some .int) ∈ mv_tb := mv_w 562 (by decide +kernel) (by decide +kernel)
theorem wd_542 : Cond.code yX10_rowOf cX10_rowOf 1 (some .int) ∈ mv_tb := mv_w 565 (by decide +kernel) (by decide +kernel)
theorem wd_543 : Cond.code yX10_differenceOfRuns cX10_differenceOfRuns 6 (some .int) ∈ mv_tb := mv_w 576 (by decide +kernel) (by decide +kernel)
theorem wd_544 : Cond.code yX11_in cX11_in 3 (some .boolean) ∈ mv_tb := mv_w 875 (by decide +kernel) (by decide +kernel)
theorem wd_545 : Cond.initialized RX11 ∈ mv_tb := mv_w 74 (by decide +kernel) (by decide +kernel)
theorem wd_546 : Cond.code yX11_more cX11_more 2 (some .int) ∈ mv_tb := mv_w 918 (by decide +kernel) (by decide +kernel)
theorem wd_547 : Cond.code yX11_apart cX11_apart 2 (some .int) ∈ mv_tb := mv_w 1043 (by decide +kernel) (by decide +kernel)
theorem wd_548 : Cond.code yX11_act cX11_act 2 none ∈ mv_tb := mv_w 879 (by decide +kernel) (by decide +kernel)
theorem wd_549 : Cond.code yX11_hold cX11_hold 2 none ∈ mv_tb := mv_w 1091 (by decide +kernel) (by decide +kernel)
theorem wd_550 : Cond.code yX11_exchange cX11_exchange 3 none ∈ mv_tb := mv_w 1124 (by decide +kernel) (by decide +kernel)
theorem wd_551 : Cond.code yX11_of cX11_of 3 (some .int) ∈ mv_tb := mv_w 915 (by decide +kernel) (by decide +kernel)
theorem wd_552 : Cond.code yX11_ofQuote cX11_ofQuote 3 (some .int) ∈ mv_tb := mv_w 895 (by decide +kernel) (by decide +kernel)
theorem wd_553 : Cond.code yX11_setQuote cX11_setQuote 4 none ∈ mv_tb := mv_w 903 (by decide +kernel) (by decide +kernel)
theorem wd_554 : Cond.code yX11_isMoreOver cX11_isMoreOver 3 (some .boolean) ∈ mv_tb := mv_w 1004 (by decide +kernel) (by decide +kernel)
theorem wd_555 : Cond.code yX11_putArticle cX11_putArticle 4 none ∈ mv_tb := mv_w 883 (by decide +kernel) (by decide +kernel)
theorem wd_556 : Cond.code yX11_takeQuote cX11_takeQuote 3 none ∈ mv_tb := mv_w 899 (by decide +kernel) (by decide +kernel)
theorem wd_557 : Cond.code yX11_undo cX11_undo 2 (some .int) ∈ mv_tb := mv_w 1075 (by decide +kernel) (by decide +kernel)
theorem wd_558 : Cond.code yX11_clearText cX11_clearText 2 (some .int) ∈ mv_tb := mv_w 1083 (by decide +kernel) (by decide +kernel)
theorem wd_559 : Cond.code yX11_here cX11_here 1 (some .int) ∈ mv_tb := mv_w 1095 (by decide +kernel) (by decide +kernel)
theorem wd_560 : Cond.code yX11_sum cX11_sum 4 (some .int) ∈ mv_tb := mv_w 1132 (by decide +kernel) (by decide +kernel)
theorem wd_561 : Cond.code yJ9_abs_0f7a4 cJ9_abs_0f7a4 1 (some .int) ∈ mv_tb := mv_w 625 (by decide +kernel) (by decide +kernel)
theorem wd_562 : Cond.initialized RJ9 ∈ mv_tb := mv_w 76 (by decide +kernel) (by decide +kernel)
theorem wd_563 : Cond.code yJ9_max_7cf53 cJ9_max_7cf53 2 (some .int) ∈ mv_tb := mv_w 481 (by decide +kernel) (by decide +kernel)
theorem wd_564 : Cond.code yJ9_min_7cf53 cJ9_min_7cf53 2 (some .int) ∈ mv_tb := mv_w 540 (by decide +kernel) (by decide +kernel)
theorem wd_565 : Cond.code yJ7_fill_53178 cJ7_fill_53178 4 none ∈ mv_tb := mv_w 533 (by decide +kernel) (by decide +kernel)
theorem wd_566 : Cond.initialized RJ7 ∈ mv_tb := mv_w 77 (by decide +kernel) (by decide +kernel)
theorem wd_567 : Cond.code yX0_leastLength cX0_leastLength 3 (some .int) ∈ mv_tb := mv_w 478 (by decide +kernel) (by decide +kernel)
theorem wd_568 : Cond.code yX1_copyFrom cX1_copyFrom 3 none ∈ mv_tb := mv_w 432 (by decide +kernel) (by decide +kernel)
theorem wd_569 : Cond.code yX1_hasArticle cX1_hasArticle 2 (some .boolean) ∈ mv_tb := mv_w 456 (by decide +kernel) (by decide +kernel)
theorem wd_570 : Cond.code yX1_hasQuote cX1_hasQuote 2 (some .boolean) ∈ mv_tb := mv_w 470 (by decide +kernel) (by decide +kernel)
theorem wd_571 : Cond.code yX2_pour cX2_pour 8 none ∈ mv_tb := mv_w 545 (by decide +kernel) (by decide +kernel)
theorem wd_572 : Cond.code yX2_moduleOf cX2_moduleOf 2 (some .int) ∈ mv_tb := mv_w 601 (by decide +kernel) (by decide +kernel)
theorem wd_573 : Cond.code yX4_cover cX4_cover 7 none ∈ mv_tb := mv_w 537 (by decide +kernel) (by decide +kernel)
theorem wd_574 : Cond.code yX5_moveTo cX5_moveTo 2 none ∈ mv_tb := mv_w 558 (by decide +kernel) (by decide +kernel)
theorem wd_575 : Cond.code yX5_leaning cX5_leaning 2 (some .int) ∈ mv_tb := mv_w 621 (by decide +kernel) (by decide +kernel)
theorem wd_576 : Cond.code yX5_distanceFromModule cX5_distanceFromModule 2 (some .int) ∈ mv_tb := mv_w 607 (by decide +kernel) (by decide +kernel)
theorem wd_577 : Cond.code yX5_distanceFromQuote cX5_distanceFromQuote 2 (some .int) ∈ mv_tb := mv_w 573 (by decide +kernel) (by decide +kernel)
theorem wd_578 : Cond.code yX6_isDigit cX6_isDigit 1 (some .boolean) ∈ mv_tb := mv_w 709 (by decide +kernel) (by decide +kernel)
theorem wd_579 : Cond.code yX6_failAt cX6_failAt 2 none ∈ mv_tb := mv_w 715 (by decide +kernel) (by decide +kernel)
theorem wd_580 : Cond.code yX10_append cX10_append 2 (some .int) ∈ mv_tb := mv_w 673 (by decide +kernel) (by decide +kernel)
theorem wd_581 : Cond.code yX10_isModule cX10_isModule 1 (some .boolean) ∈ mv_tb := mv_w 409 (by decide +kernel) (by decide +kernel)
theorem wd_582 : Cond.code yX10_isPlace cX10_isPlace 3 (some .boolean) ∈ mv_tb := mv_w 518 (by decide +kernel) (by decide +kernel)
theorem wd_583 : Cond.code yX11_isArticle cX11_isArticle 2 (some .boolean) ∈ mv_tb := mv_w 891 (by decide +kernel) (by decide +kernel)
theorem wd_584 : Cond.code yX11_isQuote cX11_isQuote 2 (some .boolean) ∈ mv_tb := mv_w 950 (by decide +kernel) (by decide +kernel)
theorem wd_585 : Cond.code yX11_isPlaced cX11_isPlaced 2 (some .boolean) ∈ mv_tb := mv_w 977 (by decide +kernel) (by decide +kernel)
theorem wd_586 : Cond.code yX11_layQuote cX11_layQuote 4 none ∈ mv_tb := mv_w 981 (by decide +kernel) (by decide +kernel)
theorem wd_587 : Cond.code yX11_layArticle cX11_layArticle 7 none ∈ mv_tb := mv_w 985 (by decide +kernel) (by decide +kernel)
theorem wd_588 : Cond.code yX11_gap cX11_gap 4 (some .int) ∈ mv_tb := mv_w 1000 (by decide +kernel) (by decide +kernel)
theorem wd_589 : Cond.code yX11_moduleOf cX11_moduleOf 3 (some .int) ∈ mv_tb := mv_w 1020 (by decide +kernel) (by decide +kernel)
theorem wd_590 : Cond.code yX11_put cX11_put 5 none ∈ mv_tb := mv_w 942 (by decide +kernel) (by decide +kernel)
theorem wd_591 : Cond.code yX11_hasLineOn cX11_hasLineOn 6 (some .boolean) ∈ mv_tb := mv_w 1008 (by decide +kernel) (by decide +kernel)
theorem wd_592 : Cond.code yX11_addArticle cX11_addArticle 3 (some .int) ∈ mv_tb := mv_w 872 (by decide +kernel) (by decide +kernel)
theorem wd_593 : Cond.code yX11_lastSentence cX11_lastSentence 4 (some .int) ∈ mv_tb := mv_w 911 (by decide +kernel) (by decide +kernel)
theorem wd_594 : Cond.code yX11_putSentence cX11_putSentence 4 (some .int) ∈ mv_tb := mv_w 926 (by decide +kernel) (by decide +kernel)
theorem wd_595 : Cond.code yX11_isPlace cX11_isPlace 3 (some .boolean) ∈ mv_tb := mv_w 957 (by decide +kernel) (by decide +kernel)
theorem wd_596 : Cond.code yX11_setRule cX11_setRule 5 (some .int) ∈ mv_tb := mv_w 1059 (by decide +kernel) (by decide +kernel)
theorem wd_597 : Cond.code yX11_placedMany cX11_placedMany 3 (some .int) ∈ mv_tb := mv_w 1067 (by decide +kernel) (by decide +kernel)
theorem wd_598 : Cond.code yX11_append cX11_append 2 (some .int) ∈ mv_tb := mv_w 1079 (by decide +kernel) (by decide +kernel)
theorem wd_599 : Cond.code yX11_reads cX11_reads 7 (some .boolean) ∈ mv_tb := mv_w 1111 (by decide +kernel) (by decide +kernel)
theorem wd_600 : Cond.code yX11_takes cX11_takes 3 (some .boolean) ∈ mv_tb := mv_w 1103 (by decide +kernel) (by decide +kernel)
theorem wd_601 : Cond.code yX11_takenMany cX11_takenMany 7 (some .int) ∈ mv_tb := mv_w 1136 (by decide +kernel) (by decide +kernel)
theorem wd_602 : Cond.code yX1_hasLine cX1_hasLine 3 (some .boolean) ∈ mv_tb := mv_w 489 (by decide +kernel) (by decide +kernel)
theorem wd_603 : Cond.code yX1_hasSentence cX1_hasSentence 3 (some .boolean) ∈ mv_tb := mv_w 501 (by decide +kernel) (by decide +kernel)
theorem wd_604 : Cond.code yX1_dropQuote cX1_dropQuote 3 none ∈ mv_tb := mv_w 466 (by decide +kernel) (by decide +kernel)
theorem wd_605 : Cond.code yX1_balanceOf cX1_balanceOf 4 (some .int) ∈ mv_tb := mv_w 617 (by decide +kernel) (by decide +kernel)
theorem wd_606 : Cond.code yX4_arrange cX4_arrange 3 none ∈ mv_tb := mv_w 530 (by decide +kernel) (by decide +kernel)
theorem wd_607 : Cond.code yX4_distanceFromSentence cX4_distanceFromSentence 6 (some .int) ∈ mv_tb := mv_w 597 (by decide +kernel) (by decide +kernel)
theorem wd_608 : Cond.code yX6_expect cX6_expect 2 none ∈ mv_tb := mv_w 730 (by decide +kernel) (by decide +kernel)
theorem wd_609 : Cond.code yX6_readNumber cX6_readNumber 6 (some .int) ∈ mv_tb := mv_w 706 (by decide +kernel) (by decide +kernel)
theorem wd_610 : Cond.code yX7_copyFrom cX7_copyFrom 3 none ∈ mv_tb := mv_w 428 (by decide +kernel) (by decide +kernel)
theorem wd_611 : Cond.code yX9_isTooNearToAnother cX9_isTooNearToAnother 4 (some .boolean) ∈ mv_tb := mv_w 569 (by decide +kernel) (by decide +kernel)
theorem wd_612 : Cond.initialized RX9 ∈ mv_tb := mv_w 71 (by decide +kernel) (by decide +kernel)
theorem wd_613 : Cond.code yX11_isSentence cX11_isSentence 3 (some .boolean) ∈ mv_tb := mv_w 934 (by decide +kernel) (by decide +kernel)
theorem wd_614 : Cond.code yX11_layOut cX11_layOut 2 none ∈ mv_tb := mv_w 973 (by decide +kernel) (by decide +kernel)
theorem wd_615 : Cond.code yX11_fromModule cX11_fromModule 5 (some .int) ∈ mv_tb := mv_w 1024 (by decide +kernel) (by decide +kernel)
theorem wd_616 : Cond.code yX11_between cX11_between 3 (some .int) ∈ mv_tb := mv_w 997 (by decide +kernel) (by decide +kernel)
theorem wd_617 : Cond.code yX11_balance cX11_balance 5 (some .int) ∈ mv_tb := mv_w 1040 (by decide +kernel) (by decide +kernel)
theorem wd_618 : Cond.code yX11_putBack cX11_putBack 2 none ∈ mv_tb := mv_w 1032 (by decide +kernel) (by decide +kernel)
theorem wd_619 : Cond.code yX11_removeArticle cX11_removeArticle 3 (some .int) ∈ mv_tb := mv_w 887 (by decide +kernel) (by decide +kernel)
theorem wd_620 : Cond.code yX11_setArticle cX11_setArticle 5 (some .int) ∈ mv_tb := mv_w 907 (by decide +kernel) (by decide +kernel)
theorem wd_621 : Cond.code yX11_addSentence cX11_addSentence 3 (some .int) ∈ mv_tb := mv_w 922 (by decide +kernel) (by decide +kernel)
theorem wd_622 : Cond.code yX11_putQuote cX11_putQuote 6 none ∈ mv_tb := mv_w 938 (by decide +kernel) (by decide +kernel)
theorem wd_623 : Cond.code yX11_removeQuote cX11_removeQuote 2 (some .int) ∈ mv_tb := mv_w 946 (by decide +kernel) (by decide +kernel)
theorem wd_624 : Cond.code yX11_take cX11_take 4 (some .int) ∈ mv_tb := mv_w 1063 (by decide +kernel) (by decide +kernel)
theorem wd_625 : Cond.code yX11_restore cX11_restore 4 (some .int) ∈ mv_tb := mv_w 1071 (by decide +kernel) (by decide +kernel)
theorem wd_626 : Cond.code yX11_readsSentences cX11_readsSentences 5 (some .boolean) ∈ mv_tb := mv_w 1116 (by decide +kernel) (by decide +kernel)
theorem wd_627 : Cond.code yX1_dropArticle cX1_dropArticle 3 none ∈ mv_tb := mv_w 461 (by decide +kernel) (by decide +kernel)
theorem wd_628 : Cond.code yX1_unrest cX1_unrest 3 (some .int) ∈ mv_tb := mv_w 613 (by decide +kernel) (by decide +kernel)
theorem wd_629 : Cond.code yX3_keep cX3_keep 2 none ∈ mv_tb := mv_w 420 (by decide +kernel) (by decide +kernel)
theorem wd_630 : Cond.code yX3_giveBackTo cX3_giveBackTo 2 none ∈ mv_tb := mv_w 669 (by decide +kernel) (by decide +kernel)
theorem wd_631 : Cond.code yX6_readLines cX6_readLines 5 none ∈ mv_tb := mv_w 721 (by decide +kernel) (by decide +kernel)
theorem wd_632 : Cond.code yX6_readQuote cX6_readQuote 5 none ∈ mv_tb := mv_w 726 (by decide +kernel) (by decide +kernel)
theorem wd_633 : Cond.code yX9_prepare cX9_prepare 3 none ∈ mv_tb := mv_w 525 (by decide +kernel) (by decide +kernel)
theorem wd_634 : Cond.code yX9_isBadlyDistant cX9_isBadlyDistant 3 (some .boolean) ∈ mv_tb := mv_w 593 (by decide +kernel) (by decide +kernel)
theorem wd_635 : Cond.code yX9_greatestLength cX9_greatestLength 8 (some .int) ∈ mv_tb := mv_w 804 (by decide +kernel) (by decide +kernel)
theorem wd_636 : Cond.code yX10_currentLayout cX10_currentLayout 1 (some (.object "QuoteGrid$Layout")) ∈ mv_tb := mv_w 740 (by decide +kernel) (by decide +kernel)
theorem wd_637 : Cond.code yX11_noteOver cX11_noteOver 2 none ∈ mv_tb := mv_w 969 (by decide +kernel) (by decide +kernel)
theorem wd_638 : Cond.code yX11_fromSentence cX11_fromSentence 3 (some .int) ∈ mv_tb := mv_w 1016 (by decide +kernel) (by decide +kernel)
theorem wd_639 : Cond.code yX11_unrest cX11_unrest 1 (some .int) ∈ mv_tb := mv_w 1036 (by decide +kernel) (by decide +kernel)
theorem wd_640 : Cond.code yX11_isNear cX11_isNear 4 (some .boolean) ∈ mv_tb := mv_w 993 (by decide +kernel) (by decide +kernel)
theorem wd_641 : Cond.code yX11_addQuote cX11_addQuote 5 (some .int) ∈ mv_tb := mv_w 930 (by decide +kernel) (by decide +kernel)
theorem wd_642 : Cond.code yX11_readsArticle cX11_readsArticle 2 (some .boolean) ∈ mv_tb := mv_w 1107 (by decide +kernel) (by decide +kernel)
theorem wd_643 : Cond.code yX11_readsQuote cX11_readsQuote 4 (some .boolean) ∈ mv_tb := mv_w 1120 (by decide +kernel) (by decide +kernel)
theorem wd_644 : Cond.code yX11_article cX11_article 4 (some .int) ∈ mv_tb := mv_w 1140 (by decide +kernel) (by decide +kernel)
theorem wd_645 : Cond.code yX11_lineAt cX11_lineAt 3 (some .int) ∈ mv_tb := mv_w 1144 (by decide +kernel) (by decide +kernel)
theorem wd_646 : Cond.code yX11_sentence cX11_sentence 5 (some .int) ∈ mv_tb := mv_w 1148 (by decide +kernel) (by decide +kernel)
theorem wd_647 : Cond.code yX11_module cX11_module 2 (some .int) ∈ mv_tb := mv_w 1156 (by decide +kernel) (by decide +kernel)
theorem wd_648 : Cond.code yX11_page cX11_page 4 (some .int) ∈ mv_tb := mv_w 1160 (by decide +kernel) (by decide +kernel)
theorem wd_649 : Cond.code yX6_readArticle cX6_readArticle 4 none ∈ mv_tb := mv_w 702 (by decide +kernel) (by decide +kernel)
theorem wd_650 : Cond.code yX9_reasonInLayout cX9_reasonInLayout 3 (some .int) ∈ mv_tb := mv_w 581 (by decide +kernel) (by decide +kernel)
theorem wd_651 : Cond.code yX9_unrestAt cX9_unrestAt 2 (some .int) ∈ mv_tb := mv_w 642 (by decide +kernel) (by decide +kernel)
theorem wd_652 : Cond.code yX10_undo cX10_undo 1 (some .int) ∈ mv_tb := mv_w 665 (by decide +kernel) (by decide +kernel)
theorem wd_653 : Cond.code yX10_count cX10_count 3 (some .int) ∈ mv_tb := mv_w 736 (by decide +kernel) (by decide +kernel)
theorem wd_654 : Cond.code yX10_article cX10_article 5 (some .int) ∈ mv_tb := mv_w 761 (by decide +kernel) (by decide +kernel)
theorem wd_655 : Cond.code yX10_lineAt cX10_lineAt 3 (some .int) ∈ mv_tb := mv_w 766 (by decide +kernel) (by decide +kernel)
theorem wd_656 : Cond.code yX10_sentence cX10_sentence 5 (some .int) ∈ mv_tb := mv_w 770 (by decide +kernel) (by decide +kernel)
theorem wd_657 : Cond.code yX10_quote cX10_quote 4 (some .int) ∈ mv_tb := mv_w 774 (by decide +kernel) (by decide +kernel)
theorem wd_658 : Cond.code yX10_module cX10_module 2 (some .int) ∈ mv_tb := mv_w 779 (by decide +kernel) (by decide +kernel)
theorem wd_659 : Cond.code yX10_page cX10_page 6 (some .int) ∈ mv_tb := mv_w 783 (by decide +kernel) (by decide +kernel)
theorem wd_660 : Cond.code yX10_roomFor cX10_roomFor 2 (some .int) ∈ mv_tb := mv_w 800 (by decide +kernel) (by decide +kernel)
theorem wd_661 : Cond.code yX10_beginAction cX10_beginAction 1 none ∈ mv_tb := mv_w 416 (by decide +kernel) (by decide +kernel)
theorem wd_662 : Cond.code yX11_isWrongFromSentence cX11_isWrongFromSentence 3 (some .boolean) ∈ mv_tb := mv_w 1012 (by decide +kernel) (by decide +kernel)
theorem wd_663 : Cond.code yX11_takeUp cX11_takeUp 2 none ∈ mv_tb := mv_w 965 (by decide +kernel) (by decide +kernel)
theorem wd_664 : Cond.code yX11_lift cX11_lift 2 (some .int) ∈ mv_tb := mv_w 1047 (by decide +kernel) (by decide +kernel)
theorem wd_665 : Cond.code yX11_readsItem cX11_readsItem 1 (some .boolean) ∈ mv_tb := mv_w 1099 (by decide +kernel) (by decide +kernel)
theorem wd_666 : Cond.code yX11_count cX11_count 2 (some .int) ∈ mv_tb := mv_w 1128 (by decide +kernel) (by decide +kernel)
theorem wd_667 : Cond.code yX11_quote cX11_quote 3 (some .int) ∈ mv_tb := mv_w 1152 (by decide +kernel) (by decide +kernel)
theorem wd_668 : Cond.code yX11_roomFor cX11_roomFor 5 (some .int) ∈ mv_tb := mv_w 1176 (by decide +kernel) (by decide +kernel)
theorem wd_669 : Cond.code yX6_readItem cX6_readItem 2 none ∈ mv_tb := mv_w 698 (by decide +kernel) (by decide +kernel)
theorem wd_670 : Cond.code yX9_reasonAt cX9_reasonAt 3 (some .int) ∈ mv_tb := mv_w 554 (by decide +kernel) (by decide +kernel)
theorem wd_671 : Cond.code yX10_addArticle cX10_addArticle 4 (some .int) ∈ mv_tb := mv_w 406 (by decide +kernel) (by decide +kernel)
theorem wd_672 : Cond.code yX10_removeArticle cX10_removeArticle 3 (some .int) ∈ mv_tb := mv_w 452 (by decide +kernel) (by decide +kernel)
theorem wd_673 : Cond.code yX10_setArticle cX10_setArticle 7 (some .int) ∈ mv_tb := mv_w 474 (by decide +kernel) (by decide +kernel)
theorem wd_674 : Cond.code yX10_addSentence cX10_addSentence 5 (some .int) ∈ mv_tb := mv_w 485 (by decide +kernel) (by decide +kernel)
theorem wd_675 : Cond.code yX10_addQuote cX10_addQuote 6 (some .int) ∈ mv_tb := mv_w 497 (by decide +kernel) (by decide +kernel)
theorem wd_676 : Cond.code yX10_removeQuote cX10_removeQuote 3 (some .int) ∈ mv_tb := mv_w 509 (by decide +kernel) (by decide +kernel)
theorem wd_677 : Cond.code yX10_lift cX10_lift 3 (some .int) ∈ mv_tb := mv_w 629 (by decide +kernel) (by decide +kernel)
theorem wd_678 : Cond.code yX10_setRule cX10_setRule 6 (some .int) ∈ mv_tb := mv_w 648 (by decide +kernel) (by decide +kernel)
theorem wd_679 : Cond.code yX10_take cX10_take 2 (some .int) ∈ mv_tb := mv_w 652 (by decide +kernel) (by decide +kernel)
theorem wd_680 : Cond.code yX10_restore cX10_restore 2 (some .int) ∈ mv_tb := mv_w 661 (by decide +kernel) (by decide +kernel)
theorem wd_681 : Cond.code yX11_isWrongForOthers cX11_isWrongForOthers 4 (some .boolean) ∈ mv_tb := mv_w 1028 (by decide +kernel) (by decide +kernel)
theorem wd_682 : Cond.code yX11_load cX11_load 3 (some .int) ∈ mv_tb := mv_w 1087 (by decide +kernel) (by decide +kernel)
theorem wd_683 : Cond.code yX6_read cX6_read 3 none ∈ mv_tb := mv_w 685 (by decide +kernel) (by decide +kernel)
theorem wd_684 : Cond.code yX9_seekBest cX9_seekBest 5 none ∈ mv_tb := mv_w 637 (by decide +kernel) (by decide +kernel)
theorem wd_685 : Cond.code yX10_place cX10_place 7 (some .int) ∈ mv_tb := mv_w 515 (by decide +kernel) (by decide +kernel)
theorem wd_686 : Cond.code yX10_refusal cX10_refusal 5 (some .int) ∈ mv_tb := mv_w 788 (by decide +kernel) (by decide +kernel)
theorem wd_687 : Cond.code yX10_troubled cX10_troubled 5 (some .int) ∈ mv_tb := mv_w 796 (by decide +kernel) (by decide +kernel)
theorem wd_688 : Cond.code yX11_reasonOf cX11_reasonOf 2 (some .int) ∈ mv_tb := mv_w 989 (by decide +kernel) (by decide +kernel)
theorem wd_689 : Cond.code yX10_floatAll cX10_floatAll 5 (some .int) ∈ mv_tb := mv_w 633 (by decide +kernel) (by decide +kernel)
theorem wd_690 : Cond.code yX10_load cX10_load 1 (some .int) ∈ mv_tb := mv_w 681 (by decide +kernel) (by decide +kernel)
theorem wd_691 : Cond.code yX10_bestPlace cX10_bestPlace 3 (some .int) ∈ mv_tb := mv_w 792 (by decide +kernel) (by decide +kernel)
theorem wd_692 : Cond.code yX11_refusalOf cX11_refusalOf 6 (some .int) ∈ mv_tb := mv_w 961 (by decide +kernel) (by decide +kernel)
theorem wd_693 : Cond.code yX11_best cX11_best 4 (some .int) ∈ mv_tb := mv_w 1055 (by decide +kernel) (by decide +kernel)
theorem wd_694 : Cond.code yX11_place cX11_place 5 (some .int) ∈ mv_tb := mv_w 954 (by decide +kernel) (by decide +kernel)
theorem wd_695 : Cond.code yX11_floatAll cX11_floatAll 4 (some .int) ∈ mv_tb := mv_w 1051 (by decide +kernel) (by decide +kernel)
theorem wd_696 : Cond.code yX11_refusal cX11_refusal 5 (some .int) ∈ mv_tb := mv_w 1164 (by decide +kernel) (by decide +kernel)
theorem wd_697 : Cond.code yX11_bestPlace cX11_bestPlace 4 (some .int) ∈ mv_tb := mv_w 1168 (by decide +kernel) (by decide +kernel)
theorem wd_698 : Cond.code yX11_troubled cX11_troubled 3 (some .int) ∈ mv_tb := mv_w 1172 (by decide +kernel) (by decide +kernel)
theorem mi_X0 : ∀ w ∈ u_ws RX0 TX0 4, w ∈ mv_tb := by decide +kernel
theorem mc_X0 : mv_CI 0 RX0 TX0 4 tyX0 := ⟨by decide, rfl, mi_X0, tyX0_ok, nmX0, rfl⟩
theorem mi_X1 : ∀ w ∈ u_ws RX1 TX1 5, w ∈ mv_tb := by decide +kernel
theorem mc_X1 : mv_CI 1 RX1 TX1 5 tyX1 := ⟨by decide, rfl, mi_X1, tyX1_ok, nmX1, rfl⟩
theorem mi_X2 : ∀ w ∈ u_ws RX2 TX2 5, w ∈ mv_tb := by decide +kernel
theorem mc_X2 : mv_CI 2 RX2 TX2 5 tyX2 := ⟨by decide, rfl, mi_X2, tyX2_ok, nmX2, rfl⟩
theorem mi_X3 : ∀ w ∈ u_ws RX3 TX3 2, w ∈ mv_tb := by decide +kernel
theorem mc_X3 : mv_CI 3 RX3 TX3 2 tyX3 := ⟨by decide, rfl, mi_X3, tyX3_ok, nmX3, rfl⟩
theorem mi_X4 : ∀ w ∈ u_ws RX4 TX4 3, w ∈ mv_tb := by decide +kernel
theorem mc_X4 : mv_CI 4 RX4 TX4 3 tyX4 := ⟨by decide, rfl, mi_X4, tyX4_ok, nmX4, rfl⟩
theorem mi_X5 : ∀ w ∈ u_ws RX5 TX5 8, w ∈ mv_tb := by decide +kernel
theorem mc_X5 : mv_CI 5 RX5 TX5 8 tyX5 := ⟨by decide, rfl, mi_X5, tyX5_ok, nmX5, rfl⟩
theorem mi_X6 : ∀ w ∈ u_ws RX6 TX6 5, w ∈ mv_tb := by decide +kernel
theorem mc_X6 : mv_CI 6 RX6 TX6 5 tyX6 := ⟨by decide, rfl, mi_X6, tyX6_ok, nmX6, rfl⟩
theorem mi_X7 : ∀ w ∈ u_ws RX7 TX7 3, w ∈ mv_tb := by decide +kernel
theorem mc_X7 : mv_CI 7 RX7 TX7 3 tyX7 := ⟨by decide, rfl, mi_X7, tyX7_ok, nmX7, rfl⟩
theorem mi_X8 : ∀ w ∈ u_ws RX8 TX8 2, w ∈ mv_tb := by decide +kernel
theorem mc_X8 : mv_CI 8 RX8 TX8 2 tyX8 := ⟨by decide, rfl, mi_X8, tyX8_ok, nmX8, rfl⟩
theorem mi_X9 : ∀ w ∈ u_ws RX9 TX9 6, w ∈ mv_tb := by decide +kernel
theorem mc_X9 : mv_CI 9 RX9 TX9 6 tyX9 := ⟨by decide, rfl, mi_X9, tyX9_ok, nmX9, rfl⟩
theorem mi_X10 : ∀ w ∈ u_ws RX10 TX10 7, w ∈ mv_tb := by decide +kernel
theorem mc_X10 : mv_CI 10 RX10 TX10 7 tyX10 := ⟨by decide, rfl, mi_X10, tyX10_ok, nmX10, rfl⟩
theorem mi_X11 : ∀ w ∈ u_ws RX11 TX11 19, w ∈ mv_tb := by decide +kernel
theorem mc_X11 : mv_CI 11 RX11 TX11 19 tyX11 := ⟨by decide, rfl, mi_X11, tyX11_ok, nmX11, rfl⟩
theorem yk_X0_copyFrom : mv_Yk yX0_copyFrom cX0_copyFrom 2 none 1 := ⟨wd_513, wd_514, by decide +kernel, by decide +kernel, by decide⟩
theorem yk_X0_newSentence : mv_Yk yX0_newSentence cX0_newSentence 2 (some .int) 1 := ⟨wd_515, wd_514, by decide +kernel, by decide +kernel, by decide⟩
theorem yk_X1_newArticle : mv_Yk yX1_newArticle cX1_newArticle 4 (some .int) 2 := ⟨wd_516, wd_517, by decide +kernel, by decide +kernel, by decide⟩
theorem yk_X1_newQuote : mv_Yk yX1_newQuote cX1_newQuote 6 (some .int) 4 := ⟨wd_518, wd_517, by decide +kernel, by decide +kernel, by decide⟩
theorem yk_X1_placedQuotes : mv_Yk yX1_placedQuotes cX1_placedQuotes 3 (some .int) 0 := ⟨wd_519, wd_517, by decide +kernel, by decide +kernel, by decide⟩
theorem yk_X2_hasLineOn : mv_Yk yX2_hasLineOn cX2_hasLineOn 2 (some .boolean) 1 := ⟨wd_520, wd_521, by decide +kernel, by decide +kernel, by decide⟩
theorem yk_X3_dropOldest : mv_Yk yX3_dropOldest cX3_dropOldest 3 none 0 := ⟨wd_522, wd_523, by decide +kernel, by decide +kernel, by decide⟩
theorem yk_X4_takenBetween : mv_Yk yX4_takenBetween cX4_takenBetween 6 (some .int) 3 := ⟨wd_524, wd_525, by decide +kernel, by decide +kernel, by decide⟩
theorem yk_X4_oversetInAll : mv_Yk yX4_oversetInAll cX4_oversetInAll 3 (some .int) 0 := ⟨wd_526, wd_525, by decide +kernel, by decide +kernel, by decide⟩
theorem yk_X4_jumpsInAll : mv_Yk yX4_jumpsInAll cX4_jumpsInAll 3 (some .int) 0 := ⟨wd_527, wd_525, by decide +kernel, by decide +kernel, by decide⟩
theorem yk_X4_isMoreOverset : mv_Yk yX4_isMoreOverset cX4_isMoreOverset 3 (some .boolean) 1 := ⟨wd_528, wd_525, by decide +kernel, by decide +kernel, by decide⟩
theorem yk_X5_copyFrom : mv_Yk yX5_copyFrom cX5_copyFrom 2 none 1 := ⟨wd_529, wd_530, by decide +kernel, by decide +kernel, by decide⟩
theorem yk_X6_hasFailed : mv_Yk yX6_hasFailed cX6_hasFailed 1 (some .boolean) 0 := ⟨wd_531, wd_532, by decide +kernel, by decide +kernel, by decide⟩
theorem yk_X6_nextSign : mv_Yk yX6_nextSign cX6_nextSign 1 (some .int) 0 := ⟨wd_533, wd_532, by decide +kernel, by decide +kernel, by decide⟩
theorem yk_X7_snapshotCount : mv_Yk yX7_snapshotCount cX7_snapshotCount 3 (some .int) 0 := ⟨wd_534, wd_535, by decide +kernel, by decide +kernel, by decide⟩
theorem yk_X10_clearText : mv_Yk yX10_clearText cX10_clearText 2 (some .int) 0 := ⟨wd_536, wd_537, by decide +kernel, by decide +kernel, by decide⟩
theorem yk_X10_isWithin : mv_Yk yX10_isWithin cX10_isWithin 3 (some .boolean) 3 := ⟨wd_538, wd_537, by decide +kernel, by decide +kernel, by decide⟩
theorem yk_X10_moduleAt : mv_Yk yX10_moduleAt cX10_moduleAt 3 (some .int) 3 := ⟨wd_539, wd_537, by decide +kernel, by decide +kernel, by decide⟩
theorem yk_X10_pageOf : mv_Yk yX10_pageOf cX10_pageOf 1 (some .int) 1 := ⟨wd_540, wd_537, by decide +kernel, by decide +kernel, by decide⟩
theorem yk_X10_columnOf : mv_Yk yX10_columnOf cX10_columnOf 1 (some .int) 1 := ⟨wd_541, wd_537, by decide +kernel, by decide +kernel, by decide⟩
theorem yk_X10_rowOf : mv_Yk yX10_rowOf cX10_rowOf 1 (some .int) 1 := ⟨wd_542, wd_537, by decide +kernel, by decide +kernel, by decide⟩
theorem yk_X10_differenceOfRuns : mv_Yk yX10_differenceOfRuns cX10_differenceOfRuns 6 (some .int) 4 := ⟨wd_543, wd_537, by decide +kernel, by decide +kernel, by decide⟩
theorem yk_X11_in : mv_Yk yX11_in cX11_in 3 (some .boolean) 3 := ⟨wd_544, wd_545, by decide +kernel, by decide +kernel, by decide⟩
theorem yk_X11_more : mv_Yk yX11_more cX11_more 2 (some .int) 2 := ⟨wd_546, wd_545, by decide +kernel, by decide +kernel, by decide⟩
theorem yk_X11_apart : mv_Yk yX11_apart cX11_apart 2 (some .int) 2 := ⟨wd_547, wd_545, by decide +kernel, by decide +kernel, by decide⟩
theorem yk_X11_act : mv_Yk yX11_act cX11_act 2 none 0 := ⟨wd_548, wd_545, by decide +kernel, by decide +kernel, by decide⟩
theorem yk_X11_hold : mv_Yk yX11_hold cX11_hold 2 none 0 := ⟨wd_549, wd_545, by decide +kernel, by decide +kernel, by decide⟩
theorem yk_X11_exchange : mv_Yk yX11_exchange cX11_exchange 3 none 0 := ⟨wd_550, wd_545, by decide +kernel, by decide +kernel, by decide⟩
theorem yk_X11_of : mv_Yk yX11_of cX11_of 3 (some .int) 2 := ⟨wd_551, wd_545, by decide +kernel, by decide +kernel, by decide⟩
theorem yk_X11_ofQuote : mv_Yk yX11_ofQuote cX11_ofQuote 3 (some .int) 2 := ⟨wd_552, wd_545, by decide +kernel, by decide +kernel, by decide⟩
theorem yk_X11_setQuote : mv_Yk yX11_setQuote cX11_setQuote 4 none 3 := ⟨wd_553, wd_545, by decide +kernel, by decide +kernel, by decide⟩
theorem yk_X11_isMoreOver : mv_Yk yX11_isMoreOver cX11_isMoreOver 3 (some .boolean) 0 := ⟨wd_554, wd_545, by decide +kernel, by decide +kernel, by decide⟩
theorem yk_X11_putArticle : mv_Yk yX11_putArticle cX11_putArticle 4 none 2 := ⟨wd_555, wd_545, by decide +kernel, by decide +kernel, by decide⟩
theorem yk_X11_takeQuote : mv_Yk yX11_takeQuote cX11_takeQuote 3 none 1 := ⟨wd_556, wd_545, by decide +kernel, by decide +kernel, by decide⟩
theorem yk_X11_undo : mv_Yk yX11_undo cX11_undo 2 (some .int) 0 := ⟨wd_557, wd_545, by decide +kernel, by decide +kernel, by decide⟩
theorem yk_X11_clearText : mv_Yk yX11_clearText cX11_clearText 2 (some .int) 0 := ⟨wd_558, wd_545, by decide +kernel, by decide +kernel, by decide⟩
theorem yk_X11_here : mv_Yk yX11_here cX11_here 1 (some .int) 0 := ⟨wd_559, wd_545, by decide +kernel, by decide +kernel, by decide⟩
theorem yk_X11_sum : mv_Yk yX11_sum cX11_sum 4 (some .int) 1 := ⟨wd_560, wd_545, by decide +kernel, by decide +kernel, by decide⟩
theorem yk_J9_abs_0f7a4 : mv_Yk yJ9_abs_0f7a4 cJ9_abs_0f7a4 1 (some .int) 1 := ⟨wd_561, wd_562, by decide +kernel, by decide +kernel, by decide⟩
theorem yk_J9_max_7cf53 : mv_Yk yJ9_max_7cf53 cJ9_max_7cf53 2 (some .int) 2 := ⟨wd_563, wd_562, by decide +kernel, by decide +kernel, by decide⟩
theorem yk_J9_min_7cf53 : mv_Yk yJ9_min_7cf53 cJ9_min_7cf53 2 (some .int) 2 := ⟨wd_564, wd_562, by decide +kernel, by decide +kernel, by decide⟩
theorem yk_J7_fill_53178 : mv_Yk yJ7_fill_53178 cJ7_fill_53178 4 none 2 := ⟨wd_565, wd_566, by decide +kernel, by decide +kernel, by decide⟩
theorem yk_X0_leastLength : mv_Yk yX0_leastLength cX0_leastLength 3 (some .int) 0 := ⟨wd_567, wd_514, by decide +kernel, by decide +kernel, by decide⟩
theorem yk_X1_copyFrom : mv_Yk yX1_copyFrom cX1_copyFrom 3 none 1 := ⟨wd_568, wd_517, by decide +kernel, by decide +kernel, by decide⟩
theorem yk_X1_hasArticle : mv_Yk yX1_hasArticle cX1_hasArticle 2 (some .boolean) 1 := ⟨wd_569, wd_517, by decide +kernel, by decide +kernel, by decide⟩
theorem yk_X1_hasQuote : mv_Yk yX1_hasQuote cX1_hasQuote 2 (some .boolean) 1 := ⟨wd_570, wd_517, by decide +kernel, by decide +kernel, by decide⟩
theorem yk_X2_pour : mv_Yk yX2_pour cX2_pour 8 none 3 := ⟨wd_571, wd_521, by decide +kernel, by decide +kernel, by decide⟩
theorem yk_X2_moduleOf : mv_Yk yX2_moduleOf cX2_moduleOf 2 (some .int) 1 := ⟨wd_572, wd_521, by decide +kernel, by decide +kernel, by decide⟩
theorem yk_X4_cover : mv_Yk yX4_cover cX4_cover 7 none 2 := ⟨wd_573, wd_525, by decide +kernel, by decide +kernel, by decide⟩
theorem yk_X5_moveTo : mv_Yk yX5_moveTo cX5_moveTo 2 none 1 := ⟨wd_574, wd_530, by decide +kernel, by decide +kernel, by decide⟩
theorem yk_X5_leaning : mv_Yk yX5_leaning cX5_leaning 2 (some .int) 0 := ⟨wd_575, wd_530, by decide +kernel, by decide +kernel, by decide⟩
theorem yk_X5_distanceFromModule : mv_Yk yX5_distanceFromModule cX5_distanceFromModule 2 (some .int) 1 := ⟨wd_576, wd_530, by decide +kernel, by decide +kernel, by decide⟩
theorem yk_X5_distanceFromQuote : mv_Yk yX5_distanceFromQuote cX5_distanceFromQuote 2 (some .int) 1 := ⟨wd_577, wd_530, by decide +kernel, by decide +kernel, by decide⟩
theorem yk_X6_isDigit : mv_Yk yX6_isDigit cX6_isDigit 1 (some .boolean) 1 := ⟨wd_578, wd_532, by decide +kernel, by decide +kernel, by decide⟩
theorem yk_X6_failAt : mv_Yk yX6_failAt cX6_failAt 2 none 1 := ⟨wd_579, wd_532, by decide +kernel, by decide +kernel, by decide⟩
theorem yk_X10_append : mv_Yk yX10_append cX10_append 2 (some .int) 1 := ⟨wd_580, wd_537, by decide +kernel, by decide +kernel, by decide⟩
theorem yk_X10_isModule : mv_Yk yX10_isModule cX10_isModule 1 (some .boolean) 1 := ⟨wd_581, wd_537, by decide +kernel, by decide +kernel, by decide⟩
theorem yk_X10_isPlace : mv_Yk yX10_isPlace cX10_isPlace 3 (some .boolean) 3 := ⟨wd_582, wd_537, by decide +kernel, by decide +kernel, by decide⟩
theorem yk_X11_isArticle : mv_Yk yX11_isArticle cX11_isArticle 2 (some .boolean) 1 := ⟨wd_583, wd_545, by decide +kernel, by decide +kernel, by decide⟩
theorem yk_X11_isQuote : mv_Yk yX11_isQuote cX11_isQuote 2 (some .boolean) 1 := ⟨wd_584, wd_545, by decide +kernel, by decide +kernel, by decide⟩
theorem yk_X11_isPlaced : mv_Yk yX11_isPlaced cX11_isPlaced 2 (some .boolean) 1 := ⟨wd_585, wd_545, by decide +kernel, by decide +kernel, by decide⟩
theorem yk_X11_layQuote : mv_Yk yX11_layQuote cX11_layQuote 4 none 1 := ⟨wd_586, wd_545, by decide +kernel, by decide +kernel, by decide⟩
theorem yk_X11_layArticle : mv_Yk yX11_layArticle cX11_layArticle 7 none 1 := ⟨wd_587, wd_545, by decide +kernel, by decide +kernel, by decide⟩
theorem yk_X11_gap : mv_Yk yX11_gap cX11_gap 4 (some .int) 4 := ⟨wd_588, wd_545, by decide +kernel, by decide +kernel, by decide⟩
theorem yk_X11_moduleOf : mv_Yk yX11_moduleOf cX11_moduleOf 3 (some .int) 1 := ⟨wd_589, wd_545, by decide +kernel, by decide +kernel, by decide⟩
theorem yk_X11_put : mv_Yk yX11_put cX11_put 5 none 4 := ⟨wd_590, wd_545, by decide +kernel, by decide +kernel, by decide⟩
theorem yk_X11_hasLineOn : mv_Yk yX11_hasLineOn cX11_hasLineOn 6 (some .boolean) 2 := ⟨wd_591, wd_545, by decide +kernel, by decide +kernel, by decide⟩
theorem yk_X11_addArticle : mv_Yk yX11_addArticle cX11_addArticle 3 (some .int) 2 := ⟨wd_592, wd_545, by decide +kernel, by decide +kernel, by decide⟩
theorem yk_X11_lastSentence : mv_Yk yX11_lastSentence cX11_lastSentence 4 (some .int) 1 := ⟨wd_593, wd_545, by decide +kernel, by decide +kernel, by decide⟩
theorem yk_X11_putSentence : mv_Yk yX11_putSentence cX11_putSentence 4 (some .int) 2 := ⟨wd_594, wd_545, by decide +kernel, by decide +kernel, by decide⟩
theorem yk_X11_isPlace : mv_Yk yX11_isPlace cX11_isPlace 3 (some .boolean) 3 := ⟨wd_595, wd_545, by decide +kernel, by decide +kernel, by decide⟩
theorem yk_X11_setRule : mv_Yk yX11_setRule cX11_setRule 5 (some .int) 2 := ⟨wd_596, wd_545, by decide +kernel, by decide +kernel, by decide⟩
theorem yk_X11_placedMany : mv_Yk yX11_placedMany cX11_placedMany 3 (some .int) 0 := ⟨wd_597, wd_545, by decide +kernel, by decide +kernel, by decide⟩
theorem yk_X11_append : mv_Yk yX11_append cX11_append 2 (some .int) 1 := ⟨wd_598, wd_545, by decide +kernel, by decide +kernel, by decide⟩
theorem yk_X11_reads : mv_Yk yX11_reads cX11_reads 7 (some .boolean) 2 := ⟨wd_599, wd_545, by decide +kernel, by decide +kernel, by decide⟩
theorem yk_X11_takes : mv_Yk yX11_takes cX11_takes 3 (some .boolean) 1 := ⟨wd_600, wd_545, by decide +kernel, by decide +kernel, by decide⟩
theorem yk_X11_takenMany : mv_Yk yX11_takenMany cX11_takenMany 7 (some .int) 4 := ⟨wd_601, wd_545, by decide +kernel, by decide +kernel, by decide⟩
theorem yk_X1_hasLine : mv_Yk yX1_hasLine cX1_hasLine 3 (some .boolean) 2 := ⟨wd_602, wd_517, by decide +kernel, by decide +kernel, by decide⟩
theorem yk_X1_hasSentence : mv_Yk yX1_hasSentence cX1_hasSentence 3 (some .boolean) 2 := ⟨wd_603, wd_517, by decide +kernel, by decide +kernel, by decide⟩
theorem yk_X1_dropQuote : mv_Yk yX1_dropQuote cX1_dropQuote 3 none 1 := ⟨wd_604, wd_517, by decide +kernel, by decide +kernel, by decide⟩
theorem yk_X1_balanceOf : mv_Yk yX1_balanceOf cX1_balanceOf 4 (some .int) 1 := ⟨wd_605, wd_517, by decide +kernel, by decide +kernel, by decide⟩
theorem yk_X4_arrange : mv_Yk yX4_arrange cX4_arrange 3 none 1 := ⟨wd_606, wd_525, by decide +kernel, by decide +kernel, by decide⟩
theorem yk_X4_distanceFromSentence : mv_Yk yX4_distanceFromSentence cX4_distanceFromSentence 6 (some .int) 2 := ⟨wd_607, wd_525, by decide +kernel, by decide +kernel, by decide⟩
theorem yk_X6_expect : mv_Yk yX6_expect cX6_expect 2 none 1 := ⟨wd_608, wd_532, by decide +kernel, by decide +kernel, by decide⟩
theorem yk_X6_readNumber : mv_Yk yX6_readNumber cX6_readNumber 6 (some .int) 2 := ⟨wd_609, wd_532, by decide +kernel, by decide +kernel, by decide⟩
theorem yk_X7_copyFrom : mv_Yk yX7_copyFrom cX7_copyFrom 3 none 1 := ⟨wd_610, wd_535, by decide +kernel, by decide +kernel, by decide⟩
theorem yk_X9_isTooNearToAnother : mv_Yk yX9_isTooNearToAnother cX9_isTooNearToAnother 4 (some .boolean) 1 := ⟨wd_611, wd_612, by decide +kernel, by decide +kernel, by decide⟩
theorem yk_X11_isSentence : mv_Yk yX11_isSentence cX11_isSentence 3 (some .boolean) 2 := ⟨wd_613, wd_545, by decide +kernel, by decide +kernel, by decide⟩
theorem yk_X11_layOut : mv_Yk yX11_layOut cX11_layOut 2 none 0 := ⟨wd_614, wd_545, by decide +kernel, by decide +kernel, by decide⟩
theorem yk_X11_fromModule : mv_Yk yX11_fromModule cX11_fromModule 5 (some .int) 2 := ⟨wd_615, wd_545, by decide +kernel, by decide +kernel, by decide⟩
theorem yk_X11_between : mv_Yk yX11_between cX11_between 3 (some .int) 2 := ⟨wd_616, wd_545, by decide +kernel, by decide +kernel, by decide⟩
theorem yk_X11_balance : mv_Yk yX11_balance cX11_balance 5 (some .int) 1 := ⟨wd_617, wd_545, by decide +kernel, by decide +kernel, by decide⟩
theorem yk_X11_putBack : mv_Yk yX11_putBack cX11_putBack 2 none 1 := ⟨wd_618, wd_545, by decide +kernel, by decide +kernel, by decide⟩
theorem yk_X11_removeArticle : mv_Yk yX11_removeArticle cX11_removeArticle 3 (some .int) 1 := ⟨wd_619, wd_545, by decide +kernel, by decide +kernel, by decide⟩
theorem yk_X11_setArticle : mv_Yk yX11_setArticle cX11_setArticle 5 (some .int) 3 := ⟨wd_620, wd_545, by decide +kernel, by decide +kernel, by decide⟩
theorem yk_X11_addSentence : mv_Yk yX11_addSentence cX11_addSentence 3 (some .int) 2 := ⟨wd_621, wd_545, by decide +kernel, by decide +kernel, by decide⟩
theorem yk_X11_putQuote : mv_Yk yX11_putQuote cX11_putQuote 6 none 4 := ⟨wd_622, wd_545, by decide +kernel, by decide +kernel, by decide⟩
theorem yk_X11_removeQuote : mv_Yk yX11_removeQuote cX11_removeQuote 2 (some .int) 1 := ⟨wd_623, wd_545, by decide +kernel, by decide +kernel, by decide⟩
theorem yk_X11_take : mv_Yk yX11_take cX11_take 4 (some .int) 1 := ⟨wd_624, wd_545, by decide +kernel, by decide +kernel, by decide⟩
theorem yk_X11_restore : mv_Yk yX11_restore cX11_restore 4 (some .int) 1 := ⟨wd_625, wd_545, by decide +kernel, by decide +kernel, by decide⟩
theorem yk_X11_readsSentences : mv_Yk yX11_readsSentences cX11_readsSentences 5 (some .boolean) 1 := ⟨wd_626, wd_545, by decide +kernel, by decide +kernel, by decide⟩
theorem yk_X1_dropArticle : mv_Yk yX1_dropArticle cX1_dropArticle 3 none 1 := ⟨wd_627, wd_517, by decide +kernel, by decide +kernel, by decide⟩
theorem yk_X1_unrest : mv_Yk yX1_unrest cX1_unrest 3 (some .int) 0 := ⟨wd_628, wd_517, by decide +kernel, by decide +kernel, by decide⟩
theorem yk_X3_keep : mv_Yk yX3_keep cX3_keep 2 none 1 := ⟨wd_629, wd_523, by decide +kernel, by decide +kernel, by decide⟩
theorem yk_X3_giveBackTo : mv_Yk yX3_giveBackTo cX3_giveBackTo 2 none 1 := ⟨wd_630, wd_523, by decide +kernel, by decide +kernel, by decide⟩
theorem yk_X6_readLines : mv_Yk yX6_readLines cX6_readLines 5 none 1 := ⟨wd_631, wd_532, by decide +kernel, by decide +kernel, by decide⟩
theorem yk_X6_readQuote : mv_Yk yX6_readQuote cX6_readQuote 5 none 0 := ⟨wd_632, wd_532, by decide +kernel, by decide +kernel, by decide⟩
theorem yk_X9_prepare : mv_Yk yX9_prepare cX9_prepare 3 none 2 := ⟨wd_633, wd_612, by decide +kernel, by decide +kernel, by decide⟩
theorem yk_X9_isBadlyDistant : mv_Yk yX9_isBadlyDistant cX9_isBadlyDistant 3 (some .boolean) 1 := ⟨wd_634, wd_612, by decide +kernel, by decide +kernel, by decide⟩
theorem yk_X9_greatestLength : mv_Yk yX9_greatestLength cX9_greatestLength 8 (some .int) 2 := ⟨wd_635, wd_612, by decide +kernel, by decide +kernel, by decide⟩
theorem yk_X10_currentLayout : mv_Yk yX10_currentLayout cX10_currentLayout 1 (some (.object "QuoteGrid$Layout")) 0 := ⟨wd_636, wd_537, by decide +kernel, by decide +kernel, by decide⟩
theorem yk_X11_noteOver : mv_Yk yX11_noteOver cX11_noteOver 2 none 0 := ⟨wd_637, wd_545, by decide +kernel, by decide +kernel, by decide⟩
theorem yk_X11_fromSentence : mv_Yk yX11_fromSentence cX11_fromSentence 3 (some .int) 1 := ⟨wd_638, wd_545, by decide +kernel, by decide +kernel, by decide⟩
theorem yk_X11_unrest : mv_Yk yX11_unrest cX11_unrest 1 (some .int) 0 := ⟨wd_639, wd_545, by decide +kernel, by decide +kernel, by decide⟩
theorem yk_X11_isNear : mv_Yk yX11_isNear cX11_isNear 4 (some .boolean) 1 := ⟨wd_640, wd_545, by decide +kernel, by decide +kernel, by decide⟩
theorem yk_X11_addQuote : mv_Yk yX11_addQuote cX11_addQuote 5 (some .int) 4 := ⟨wd_641, wd_545, by decide +kernel, by decide +kernel, by decide⟩
theorem yk_X11_readsArticle : mv_Yk yX11_readsArticle cX11_readsArticle 2 (some .boolean) 0 := ⟨wd_642, wd_545, by decide +kernel, by decide +kernel, by decide⟩
theorem yk_X11_readsQuote : mv_Yk yX11_readsQuote cX11_readsQuote 4 (some .boolean) 0 := ⟨wd_643, wd_545, by decide +kernel, by decide +kernel, by decide⟩
theorem yk_X11_article : mv_Yk yX11_article cX11_article 4 (some .int) 2 := ⟨wd_644, wd_545, by decide +kernel, by decide +kernel, by decide⟩
theorem yk_X11_lineAt : mv_Yk yX11_lineAt cX11_lineAt 3 (some .int) 2 := ⟨wd_645, wd_545, by decide +kernel, by decide +kernel, by decide⟩
theorem yk_X11_sentence : mv_Yk yX11_sentence cX11_sentence 5 (some .int) 3 := ⟨wd_646, wd_545, by decide +kernel, by decide +kernel, by decide⟩
theorem yk_X11_module : mv_Yk yX11_module cX11_module 2 (some .int) 1 := ⟨wd_647, wd_545, by decide +kernel, by decide +kernel, by decide⟩
theorem yk_X11_page : mv_Yk yX11_page cX11_page 4 (some .int) 2 := ⟨wd_648, wd_545, by decide +kernel, by decide +kernel, by decide⟩
theorem yk_X6_readArticle : mv_Yk yX6_readArticle cX6_readArticle 4 none 0 := ⟨wd_649, wd_532, by decide +kernel, by decide +kernel, by decide⟩
theorem yk_X9_reasonInLayout : mv_Yk yX9_reasonInLayout cX9_reasonInLayout 3 (some .int) 1 := ⟨wd_650, wd_612, by decide +kernel, by decide +kernel, by decide⟩
theorem yk_X9_unrestAt : mv_Yk yX9_unrestAt cX9_unrestAt 2 (some .int) 1 := ⟨wd_651, wd_612, by decide +kernel, by decide +kernel, by decide⟩
theorem yk_X10_undo : mv_Yk yX10_undo cX10_undo 1 (some .int) 0 := ⟨wd_652, wd_537, by decide +kernel, by decide +kernel, by decide⟩
theorem yk_X10_count : mv_Yk yX10_count cX10_count 3 (some .int) 1 := ⟨wd_653, wd_537, by decide +kernel, by decide +kernel, by decide⟩
theorem yk_X10_article : mv_Yk yX10_article cX10_article 5 (some .int) 2 := ⟨wd_654, wd_537, by decide +kernel, by decide +kernel, by decide⟩
theorem yk_X10_lineAt : mv_Yk yX10_lineAt cX10_lineAt 3 (some .int) 2 := ⟨wd_655, wd_537, by decide +kernel, by decide +kernel, by decide⟩
theorem yk_X10_sentence : mv_Yk yX10_sentence cX10_sentence 5 (some .int) 3 := ⟨wd_656, wd_537, by decide +kernel, by decide +kernel, by decide⟩
theorem yk_X10_quote : mv_Yk yX10_quote cX10_quote 4 (some .int) 2 := ⟨wd_657, wd_537, by decide +kernel, by decide +kernel, by decide⟩
theorem yk_X10_module : mv_Yk yX10_module cX10_module 2 (some .int) 1 := ⟨wd_658, wd_537, by decide +kernel, by decide +kernel, by decide⟩
theorem yk_X10_page : mv_Yk yX10_page cX10_page 6 (some .int) 2 := ⟨wd_659, wd_537, by decide +kernel, by decide +kernel, by decide⟩
theorem yk_X10_roomFor : mv_Yk yX10_roomFor cX10_roomFor 2 (some .int) 1 := ⟨wd_660, wd_537, by decide +kernel, by decide +kernel, by decide⟩
theorem yk_X10_beginAction : mv_Yk yX10_beginAction cX10_beginAction 1 none 0 := ⟨wd_661, wd_537, by decide +kernel, by decide +kernel, by decide⟩
theorem yk_X11_isWrongFromSentence : mv_Yk yX11_isWrongFromSentence cX11_isWrongFromSentence 3 (some .boolean) 1 := ⟨wd_662, wd_545, by decide +kernel, by decide +kernel, by decide⟩
theorem yk_X11_takeUp : mv_Yk yX11_takeUp cX11_takeUp 2 none 1 := ⟨wd_663, wd_545, by decide +kernel, by decide +kernel, by decide⟩
theorem yk_X11_lift : mv_Yk yX11_lift cX11_lift 2 (some .int) 1 := ⟨wd_664, wd_545, by decide +kernel, by decide +kernel, by decide⟩
theorem yk_X11_readsItem : mv_Yk yX11_readsItem cX11_readsItem 1 (some .boolean) 0 := ⟨wd_665, wd_545, by decide +kernel, by decide +kernel, by decide⟩
theorem yk_X11_count : mv_Yk yX11_count cX11_count 2 (some .int) 1 := ⟨wd_666, wd_545, by decide +kernel, by decide +kernel, by decide⟩
theorem yk_X11_quote : mv_Yk yX11_quote cX11_quote 3 (some .int) 2 := ⟨wd_667, wd_545, by decide +kernel, by decide +kernel, by decide⟩
theorem yk_X11_roomFor : mv_Yk yX11_roomFor cX11_roomFor 5 (some .int) 1 := ⟨wd_668, wd_545, by decide +kernel, by decide +kernel, by decide⟩
theorem yk_X6_readItem : mv_Yk yX6_readItem cX6_readItem 2 none 0 := ⟨wd_669, wd_532, by decide +kernel, by decide +kernel, by decide⟩
theorem yk_X9_reasonAt : mv_Yk yX9_reasonAt cX9_reasonAt 3 (some .int) 1 := ⟨wd_670, wd_612, by decide +kernel, by decide +kernel, by decide⟩
theorem yk_X10_addArticle : mv_Yk yX10_addArticle cX10_addArticle 4 (some .int) 2 := ⟨wd_671, wd_537, by decide +kernel, by decide +kernel, by decide⟩
theorem yk_X10_removeArticle : mv_Yk yX10_removeArticle cX10_removeArticle 3 (some .int) 1 := ⟨wd_672, wd_537, by decide +kernel, by decide +kernel, by decide⟩
theorem yk_X10_setArticle : mv_Yk yX10_setArticle cX10_setArticle 7 (some .int) 3 := ⟨wd_673, wd_537, by decide +kernel, by decide +kernel, by decide⟩
theorem yk_X10_addSentence : mv_Yk yX10_addSentence cX10_addSentence 5 (some .int) 2 := ⟨wd_674, wd_537, by decide +kernel, by decide +kernel, by decide⟩
theorem yk_X10_addQuote : mv_Yk yX10_addQuote cX10_addQuote 6 (some .int) 4 := ⟨wd_675, wd_537, by decide +kernel, by decide +kernel, by decide⟩
theorem yk_X10_removeQuote : mv_Yk yX10_removeQuote cX10_removeQuote 3 (some .int) 1 := ⟨wd_676, wd_537, by decide +kernel, by decide +kernel, by decide⟩
theorem yk_X10_lift : mv_Yk yX10_lift cX10_lift 3 (some .int) 1 := ⟨wd_677, wd_537, by decide +kernel, by decide +kernel, by decide⟩
theorem yk_X10_setRule : mv_Yk yX10_setRule cX10_setRule 6 (some .int) 2 := ⟨wd_678, wd_537, by decide +kernel, by decide +kernel, by decide⟩
theorem yk_X10_take : mv_Yk yX10_take cX10_take 2 (some .int) 1 := ⟨wd_679, wd_537, by decide +kernel, by decide +kernel, by decide⟩
theorem yk_X10_restore : mv_Yk yX10_restore cX10_restore 2 (some .int) 1 := ⟨wd_680, wd_537, by decide +kernel, by decide +kernel, by decide⟩
theorem yk_X11_isWrongForOthers : mv_Yk yX11_isWrongForOthers cX11_isWrongForOthers 4 (some .boolean) 1 := ⟨wd_681, wd_545, by decide +kernel, by decide +kernel, by decide⟩
theorem yk_X11_load : mv_Yk yX11_load cX11_load 3 (some .int) 0 := ⟨wd_682, wd_545, by decide +kernel, by decide +kernel, by decide⟩
theorem yk_X6_read : mv_Yk yX6_read cX6_read 3 none 1 := ⟨wd_683, wd_532, by decide +kernel, by decide +kernel, by decide⟩
theorem yk_X9_seekBest : mv_Yk yX9_seekBest cX9_seekBest 5 none 2 := ⟨wd_684, wd_612, by decide +kernel, by decide +kernel, by decide⟩
theorem yk_X10_place : mv_Yk yX10_place cX10_place 7 (some .int) 4 := ⟨wd_685, wd_537, by decide +kernel, by decide +kernel, by decide⟩
theorem yk_X10_refusal : mv_Yk yX10_refusal cX10_refusal 5 (some .int) 4 := ⟨wd_686, wd_537, by decide +kernel, by decide +kernel, by decide⟩
theorem yk_X10_troubled : mv_Yk yX10_troubled cX10_troubled 5 (some .int) 0 := ⟨wd_687, wd_537, by decide +kernel, by decide +kernel, by decide⟩
theorem yk_X11_reasonOf : mv_Yk yX11_reasonOf cX11_reasonOf 2 (some .int) 1 := ⟨wd_688, wd_545, by decide +kernel, by decide +kernel, by decide⟩
theorem yk_X10_floatAll : mv_Yk yX10_floatAll cX10_floatAll 5 (some .int) 0 := ⟨wd_689, wd_537, by decide +kernel, by decide +kernel, by decide⟩
theorem yk_X10_load : mv_Yk yX10_load cX10_load 1 (some .int) 0 := ⟨wd_690, wd_537, by decide +kernel, by decide +kernel, by decide⟩
theorem yk_X10_bestPlace : mv_Yk yX10_bestPlace cX10_bestPlace 3 (some .int) 2 := ⟨wd_691, wd_537, by decide +kernel, by decide +kernel, by decide⟩
theorem yk_X11_refusalOf : mv_Yk yX11_refusalOf cX11_refusalOf 6 (some .int) 4 := ⟨wd_692, wd_545, by decide +kernel, by decide +kernel, by decide⟩
theorem yk_X11_best : mv_Yk yX11_best cX11_best 4 (some .int) 1 := ⟨wd_693, wd_545, by decide +kernel, by decide +kernel, by decide⟩
theorem yk_X11_place : mv_Yk yX11_place cX11_place 5 (some .int) 4 := ⟨wd_694, wd_545, by decide +kernel, by decide +kernel, by decide⟩
theorem yk_X11_floatAll : mv_Yk yX11_floatAll cX11_floatAll 4 (some .int) 0 := ⟨wd_695, wd_545, by decide +kernel, by decide +kernel, by decide⟩
theorem yk_X11_refusal : mv_Yk yX11_refusal cX11_refusal 5 (some .int) 4 := ⟨wd_696, wd_545, by decide +kernel, by decide +kernel, by decide⟩
theorem yk_X11_bestPlace : mv_Yk yX11_bestPlace cX11_bestPlace 4 (some .int) 2 := ⟨wd_697, wd_545, by decide +kernel, by decide +kernel, by decide⟩
theorem yk_X11_troubled : mv_Yk yX11_troubled cX11_troubled 3 (some .int) 0 := ⟨wd_698, wd_545, by decide +kernel, by decide +kernel, by decide⟩
end
