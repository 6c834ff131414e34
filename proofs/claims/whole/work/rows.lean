section
/-- a private method of a class that the tables say can be made, by its rows of tables_1 -/
def lw_okq (q : MethodName × Nat) : Prop := (q.1.cls ≠ "java/lang/invoke/MethodHandle" ∧ q.1.cls ≠ "java/lang/invoke/VarHandle") ∧ Cond.instantiable q.1.cls q.2 ∈ tables_1 ∧ Cond.privateMethod q.1 ∈ tables_1 ∧ Cond.instanceMethod q.1 ∈ tables_1
theorem lw_p0 : lw_okq (⟨"QuoteGrid", "beginAction", "()V"⟩, 7) := ⟨⟨by decide +kernel, by decide +kernel⟩, List.mem_of_getElem? (i := 17) (by decide +kernel), List.mem_of_getElem? (i := 352) (by decide +kernel), List.mem_of_getElem? (i := 353) (by decide +kernel)⟩
theorem lw_p1 : lw_okq (⟨"QuoteGrid$History", "dropOldest", "()V"⟩, 2) := ⟨⟨by decide +kernel, by decide +kernel⟩, List.mem_of_getElem? (i := 181) (by decide +kernel), List.mem_of_getElem? (i := 360) (by decide +kernel), List.mem_of_getElem? (i := 361) (by decide +kernel)⟩
theorem lw_p2 : lw_okq (⟨"QuoteGrid$Layout", "cover", "(LQuoteGrid$Quote;I)V"⟩, 3) := ⟨⟨by decide +kernel, by decide +kernel⟩, List.mem_of_getElem? (i := 250) (by decide +kernel), List.mem_of_getElem? (i := 473) (by decide +kernel), List.mem_of_getElem? (i := 474) (by decide +kernel)⟩
theorem lw_p3 : lw_okq (⟨"QuoteGrid$Trial", "isTooNearToAnother", "(LQuoteGrid$Quote;)Z"⟩, 6) := ⟨⟨by decide +kernel, by decide +kernel⟩, List.mem_of_getElem? (i := 242) (by decide +kernel), List.mem_of_getElem? (i := 505) (by decide +kernel), List.mem_of_getElem? (i := 506) (by decide +kernel)⟩
theorem lw_p4 : lw_okq (⟨"QuoteGrid$Trial", "reasonInLayout", "(LQuoteGrid$Quote;)I"⟩, 6) := ⟨⟨by decide +kernel, by decide +kernel⟩, List.mem_of_getElem? (i := 242) (by decide +kernel), List.mem_of_getElem? (i := 517) (by decide +kernel), List.mem_of_getElem? (i := 518) (by decide +kernel)⟩
theorem lw_p5 : lw_okq (⟨"QuoteGrid$Trial", "isBadlyDistant", "(LQuoteGrid$Quote;)Z"⟩, 6) := ⟨⟨by decide +kernel, by decide +kernel⟩, List.mem_of_getElem? (i := 242) (by decide +kernel), List.mem_of_getElem? (i := 529) (by decide +kernel), List.mem_of_getElem? (i := 530) (by decide +kernel)⟩
theorem lw_p6 : lw_okq (⟨"QuoteGrid$Trial", "unrestAt", "(I)I"⟩, 6) := ⟨⟨by decide +kernel, by decide +kernel⟩, List.mem_of_getElem? (i := 242) (by decide +kernel), List.mem_of_getElem? (i := 578) (by decide +kernel), List.mem_of_getElem? (i := 579) (by decide +kernel)⟩
theorem lw_p7 : lw_okq (⟨"QuoteGrid$Reader", "nextSign", "()I"⟩, 5) := ⟨⟨by decide +kernel, by decide +kernel⟩, List.mem_of_getElem? (i := 198) (by decide +kernel), List.mem_of_getElem? (i := 630) (by decide +kernel), List.mem_of_getElem? (i := 631) (by decide +kernel)⟩
theorem lw_p8 : lw_okq (⟨"QuoteGrid$Reader", "readItem", "()V"⟩, 5) := ⟨⟨by decide +kernel, by decide +kernel⟩, List.mem_of_getElem? (i := 198) (by decide +kernel), List.mem_of_getElem? (i := 634) (by decide +kernel), List.mem_of_getElem? (i := 635) (by decide +kernel)⟩
theorem lw_p9 : lw_okq (⟨"QuoteGrid$Reader", "readArticle", "()V"⟩, 5) := ⟨⟨by decide +kernel, by decide +kernel⟩, List.mem_of_getElem? (i := 198) (by decide +kernel), List.mem_of_getElem? (i := 638) (by decide +kernel), List.mem_of_getElem? (i := 639) (by decide +kernel)⟩
theorem lw_p10 : lw_okq (⟨"QuoteGrid$Reader", "readNumber", "(II)I"⟩, 5) := ⟨⟨by decide +kernel, by decide +kernel⟩, List.mem_of_getElem? (i := 198) (by decide +kernel), List.mem_of_getElem? (i := 642) (by decide +kernel), List.mem_of_getElem? (i := 643) (by decide +kernel)⟩
theorem lw_p11 : lw_okq (⟨"QuoteGrid$Reader", "failAt", "(I)V"⟩, 5) := ⟨⟨by decide +kernel, by decide +kernel⟩, List.mem_of_getElem? (i := 198) (by decide +kernel), List.mem_of_getElem? (i := 651) (by decide +kernel), List.mem_of_getElem? (i := 652) (by decide +kernel)⟩
theorem lw_p12 : lw_okq (⟨"QuoteGrid$Reader", "readLines", "(LQuoteGrid$Article;)V"⟩, 5) := ⟨⟨by decide +kernel, by decide +kernel⟩, List.mem_of_getElem? (i := 198) (by decide +kernel), List.mem_of_getElem? (i := 657) (by decide +kernel), List.mem_of_getElem? (i := 658) (by decide +kernel)⟩
theorem lw_p13 : lw_okq (⟨"QuoteGrid$Reader", "readQuote", "()V"⟩, 5) := ⟨⟨by decide +kernel, by decide +kernel⟩, List.mem_of_getElem? (i := 198) (by decide +kernel), List.mem_of_getElem? (i := 662) (by decide +kernel), List.mem_of_getElem? (i := 663) (by decide +kernel)⟩
theorem lw_p14 : lw_okq (⟨"QuoteGrid$Reader", "expect", "(I)V"⟩, 5) := ⟨⟨by decide +kernel, by decide +kernel⟩, List.mem_of_getElem? (i := 198) (by decide +kernel), List.mem_of_getElem? (i := 666) (by decide +kernel), List.mem_of_getElem? (i := 667) (by decide +kernel)⟩
theorem lw_p15 : lw_okq (⟨"QuoteGrid", "currentLayout", "()LQuoteGrid$Layout;"⟩, 7) := ⟨⟨by decide +kernel, by decide +kernel⟩, List.mem_of_getElem? (i := 17) (by decide +kernel), List.mem_of_getElem? (i := 676) (by decide +kernel), List.mem_of_getElem? (i := 677) (by decide +kernel)⟩
def lw_privs_1 : List (MethodName × Nat) := [(⟨"QuoteGrid", "beginAction", "()V"⟩, 7), (⟨"QuoteGrid$History", "dropOldest", "()V"⟩, 2), (⟨"QuoteGrid$Layout", "cover", "(LQuoteGrid$Quote;I)V"⟩, 3), (⟨"QuoteGrid$Trial", "isTooNearToAnother", "(LQuoteGrid$Quote;)Z"⟩, 6), (⟨"QuoteGrid$Trial", "reasonInLayout", "(LQuoteGrid$Quote;)I"⟩, 6), (⟨"QuoteGrid$Trial", "isBadlyDistant", "(LQuoteGrid$Quote;)Z"⟩, 6), (⟨"QuoteGrid$Trial", "unrestAt", "(I)I"⟩, 6), (⟨"QuoteGrid$Reader", "nextSign", "()I"⟩, 5), (⟨"QuoteGrid$Reader", "readItem", "()V"⟩, 5), (⟨"QuoteGrid$Reader", "readArticle", "()V"⟩, 5), (⟨"QuoteGrid$Reader", "readNumber", "(II)I"⟩, 5), (⟨"QuoteGrid$Reader", "failAt", "(I)V"⟩, 5), (⟨"QuoteGrid$Reader", "readLines", "(LQuoteGrid$Article;)V"⟩, 5), (⟨"QuoteGrid$Reader", "readQuote", "()V"⟩, 5), (⟨"QuoteGrid$Reader", "expect", "(I)V"⟩, 5), (⟨"QuoteGrid", "currentLayout", "()LQuoteGrid$Layout;"⟩, 7)]
theorem lw_r1 : ∀ q ∈ lw_privs_1, lw_okq q := List.forall_mem_cons.mpr ⟨lw_p0, List.forall_mem_cons.mpr ⟨lw_p1, List.forall_mem_cons.mpr ⟨lw_p2, List.forall_mem_cons.mpr ⟨lw_p3, List.forall_mem_cons.mpr ⟨lw_p4, List.forall_mem_cons.mpr ⟨lw_p5, List.forall_mem_cons.mpr ⟨lw_p6, List.forall_mem_cons.mpr ⟨lw_p7, List.forall_mem_cons.mpr ⟨lw_p8, List.forall_mem_cons.mpr ⟨lw_p9, List.forall_mem_cons.mpr ⟨lw_p10, List.forall_mem_cons.mpr ⟨lw_p11, List.forall_mem_cons.mpr ⟨lw_p12, List.forall_mem_cons.mpr ⟨lw_p13, List.forall_mem_cons.mpr ⟨lw_p14, List.forall_mem_cons.mpr ⟨lw_p15, fun _ h => absurd h List.not_mem_nil⟩⟩⟩⟩⟩⟩⟩⟩⟩⟩⟩⟩⟩⟩⟩⟩
theorem lw_p16 : lw_okq (⟨"QuoteGridModel", "act", "()V"⟩, 19) := ⟨⟨by decide +kernel, by decide +kernel⟩, List.mem_of_getElem? (i := 744) (by decide +kernel), List.mem_of_getElem? (i := 815) (by decide +kernel), List.mem_of_getElem? (i := 816) (by decide +kernel)⟩
theorem lw_p17 : lw_okq (⟨"QuoteGridModel", "putArticle", "(II)V"⟩, 19) := ⟨⟨by decide +kernel, by decide +kernel⟩, List.mem_of_getElem? (i := 744) (by decide +kernel), List.mem_of_getElem? (i := 819) (by decide +kernel), List.mem_of_getElem? (i := 820) (by decide +kernel)⟩
theorem lw_p18 : lw_okq (⟨"QuoteGridModel", "isArticle", "(I)Z"⟩, 19) := ⟨⟨by decide +kernel, by decide +kernel⟩, List.mem_of_getElem? (i := 744) (by decide +kernel), List.mem_of_getElem? (i := 827) (by decide +kernel), List.mem_of_getElem? (i := 828) (by decide +kernel)⟩
theorem lw_p19 : lw_okq (⟨"QuoteGridModel", "ofQuote", "(II)I"⟩, 19) := ⟨⟨by decide +kernel, by decide +kernel⟩, List.mem_of_getElem? (i := 744) (by decide +kernel), List.mem_of_getElem? (i := 831) (by decide +kernel), List.mem_of_getElem? (i := 832) (by decide +kernel)⟩
theorem lw_p20 : lw_okq (⟨"QuoteGridModel", "takeQuote", "(I)V"⟩, 19) := ⟨⟨by decide +kernel, by decide +kernel⟩, List.mem_of_getElem? (i := 744) (by decide +kernel), List.mem_of_getElem? (i := 835) (by decide +kernel), List.mem_of_getElem? (i := 836) (by decide +kernel)⟩
theorem lw_p21 : lw_okq (⟨"QuoteGridModel", "setQuote", "(III)V"⟩, 19) := ⟨⟨by decide +kernel, by decide +kernel⟩, List.mem_of_getElem? (i := 744) (by decide +kernel), List.mem_of_getElem? (i := 839) (by decide +kernel), List.mem_of_getElem? (i := 840) (by decide +kernel)⟩
theorem lw_p22 : lw_okq (⟨"QuoteGridModel", "lastSentence", "(I)I"⟩, 19) := ⟨⟨by decide +kernel, by decide +kernel⟩, List.mem_of_getElem? (i := 744) (by decide +kernel), List.mem_of_getElem? (i := 847) (by decide +kernel), List.mem_of_getElem? (i := 848) (by decide +kernel)⟩
theorem lw_p23 : lw_okq (⟨"QuoteGridModel", "of", "(II)I"⟩, 19) := ⟨⟨by decide +kernel, by decide +kernel⟩, List.mem_of_getElem? (i := 744) (by decide +kernel), List.mem_of_getElem? (i := 851) (by decide +kernel), List.mem_of_getElem? (i := 852) (by decide +kernel)⟩
theorem lw_p24 : lw_okq (⟨"QuoteGridModel", "putSentence", "(II)I"⟩, 19) := ⟨⟨by decide +kernel, by decide +kernel⟩, List.mem_of_getElem? (i := 744) (by decide +kernel), List.mem_of_getElem? (i := 862) (by decide +kernel), List.mem_of_getElem? (i := 863) (by decide +kernel)⟩
theorem lw_p25 : lw_okq (⟨"QuoteGridModel", "isSentence", "(II)Z"⟩, 19) := ⟨⟨by decide +kernel, by decide +kernel⟩, List.mem_of_getElem? (i := 744) (by decide +kernel), List.mem_of_getElem? (i := 870) (by decide +kernel), List.mem_of_getElem? (i := 871) (by decide +kernel)⟩
theorem lw_p26 : lw_okq (⟨"QuoteGridModel", "putQuote", "(IIII)V"⟩, 19) := ⟨⟨by decide +kernel, by decide +kernel⟩, List.mem_of_getElem? (i := 744) (by decide +kernel), List.mem_of_getElem? (i := 874) (by decide +kernel), List.mem_of_getElem? (i := 875) (by decide +kernel)⟩
theorem lw_p27 : lw_okq (⟨"QuoteGridModel", "put", "(IIII)V"⟩, 19) := ⟨⟨by decide +kernel, by decide +kernel⟩, List.mem_of_getElem? (i := 744) (by decide +kernel), List.mem_of_getElem? (i := 878) (by decide +kernel), List.mem_of_getElem? (i := 879) (by decide +kernel)⟩
theorem lw_p28 : lw_okq (⟨"QuoteGridModel", "isQuote", "(I)Z"⟩, 19) := ⟨⟨by decide +kernel, by decide +kernel⟩, List.mem_of_getElem? (i := 744) (by decide +kernel), List.mem_of_getElem? (i := 886) (by decide +kernel), List.mem_of_getElem? (i := 887) (by decide +kernel)⟩
theorem lw_p29 : lw_okq (⟨"QuoteGridModel", "refusalOf", "(IIII)I"⟩, 19) := ⟨⟨by decide +kernel, by decide +kernel⟩, List.mem_of_getElem? (i := 744) (by decide +kernel), List.mem_of_getElem? (i := 897) (by decide +kernel), List.mem_of_getElem? (i := 898) (by decide +kernel)⟩
theorem lw_p30 : lw_okq (⟨"QuoteGridModel", "takeUp", "(I)V"⟩, 19) := ⟨⟨by decide +kernel, by decide +kernel⟩, List.mem_of_getElem? (i := 744) (by decide +kernel), List.mem_of_getElem? (i := 901) (by decide +kernel), List.mem_of_getElem? (i := 902) (by decide +kernel)⟩
theorem lw_p31 : lw_okq (⟨"QuoteGridModel", "noteOver", "()V"⟩, 19) := ⟨⟨by decide +kernel, by decide +kernel⟩, List.mem_of_getElem? (i := 744) (by decide +kernel), List.mem_of_getElem? (i := 905) (by decide +kernel), List.mem_of_getElem? (i := 906) (by decide +kernel)⟩
def lw_privs_2 : List (MethodName × Nat) := [(⟨"QuoteGridModel", "act", "()V"⟩, 19), (⟨"QuoteGridModel", "putArticle", "(II)V"⟩, 19), (⟨"QuoteGridModel", "isArticle", "(I)Z"⟩, 19), (⟨"QuoteGridModel", "ofQuote", "(II)I"⟩, 19), (⟨"QuoteGridModel", "takeQuote", "(I)V"⟩, 19), (⟨"QuoteGridModel", "setQuote", "(III)V"⟩, 19), (⟨"QuoteGridModel", "lastSentence", "(I)I"⟩, 19), (⟨"QuoteGridModel", "of", "(II)I"⟩, 19), (⟨"QuoteGridModel", "putSentence", "(II)I"⟩, 19), (⟨"QuoteGridModel", "isSentence", "(II)Z"⟩, 19), (⟨"QuoteGridModel", "putQuote", "(IIII)V"⟩, 19), (⟨"QuoteGridModel", "put", "(IIII)V"⟩, 19), (⟨"QuoteGridModel", "isQuote", "(I)Z"⟩, 19), (⟨"QuoteGridModel", "refusalOf", "(IIII)I"⟩, 19), (⟨"QuoteGridModel", "takeUp", "(I)V"⟩, 19), (⟨"QuoteGridModel", "noteOver", "()V"⟩, 19)]
theorem lw_r2 : ∀ q ∈ lw_privs_2, lw_okq q := List.forall_mem_cons.mpr ⟨lw_p16, List.forall_mem_cons.mpr ⟨lw_p17, List.forall_mem_cons.mpr ⟨lw_p18, List.forall_mem_cons.mpr ⟨lw_p19, List.forall_mem_cons.mpr ⟨lw_p20, List.forall_mem_cons.mpr ⟨lw_p21, List.forall_mem_cons.mpr ⟨lw_p22, List.forall_mem_cons.mpr ⟨lw_p23, List.forall_mem_cons.mpr ⟨lw_p24, List.forall_mem_cons.mpr ⟨lw_p25, List.forall_mem_cons.mpr ⟨lw_p26, List.forall_mem_cons.mpr ⟨lw_p27, List.forall_mem_cons.mpr ⟨lw_p28, List.forall_mem_cons.mpr ⟨lw_p29, List.forall_mem_cons.mpr ⟨lw_p30, List.forall_mem_cons.mpr ⟨lw_p31, fun _ h => absurd h List.not_mem_nil⟩⟩⟩⟩⟩⟩⟩⟩⟩⟩⟩⟩⟩⟩⟩⟩
theorem lw_p32 : lw_okq (⟨"QuoteGridModel", "layOut", "()V"⟩, 19) := ⟨⟨by decide +kernel, by decide +kernel⟩, List.mem_of_getElem? (i := 744) (by decide +kernel), List.mem_of_getElem? (i := 909) (by decide +kernel), List.mem_of_getElem? (i := 910) (by decide +kernel)⟩
theorem lw_p33 : lw_okq (⟨"QuoteGridModel", "isPlaced", "(I)Z"⟩, 19) := ⟨⟨by decide +kernel, by decide +kernel⟩, List.mem_of_getElem? (i := 744) (by decide +kernel), List.mem_of_getElem? (i := 913) (by decide +kernel), List.mem_of_getElem? (i := 914) (by decide +kernel)⟩
theorem lw_p34 : lw_okq (⟨"QuoteGridModel", "layQuote", "(I)V"⟩, 19) := ⟨⟨by decide +kernel, by decide +kernel⟩, List.mem_of_getElem? (i := 744) (by decide +kernel), List.mem_of_getElem? (i := 917) (by decide +kernel), List.mem_of_getElem? (i := 918) (by decide +kernel)⟩
theorem lw_p35 : lw_okq (⟨"QuoteGridModel", "layArticle", "(I)V"⟩, 19) := ⟨⟨by decide +kernel, by decide +kernel⟩, List.mem_of_getElem? (i := 744) (by decide +kernel), List.mem_of_getElem? (i := 921) (by decide +kernel), List.mem_of_getElem? (i := 922) (by decide +kernel)⟩
theorem lw_p36 : lw_okq (⟨"QuoteGridModel", "reasonOf", "(I)I"⟩, 19) := ⟨⟨by decide +kernel, by decide +kernel⟩, List.mem_of_getElem? (i := 744) (by decide +kernel), List.mem_of_getElem? (i := 925) (by decide +kernel), List.mem_of_getElem? (i := 926) (by decide +kernel)⟩
theorem lw_p37 : lw_okq (⟨"QuoteGridModel", "isNear", "(I)Z"⟩, 19) := ⟨⟨by decide +kernel, by decide +kernel⟩, List.mem_of_getElem? (i := 744) (by decide +kernel), List.mem_of_getElem? (i := 929) (by decide +kernel), List.mem_of_getElem? (i := 930) (by decide +kernel)⟩
theorem lw_p38 : lw_okq (⟨"QuoteGridModel", "between", "(II)I"⟩, 19) := ⟨⟨by decide +kernel, by decide +kernel⟩, List.mem_of_getElem? (i := 744) (by decide +kernel), List.mem_of_getElem? (i := 933) (by decide +kernel), List.mem_of_getElem? (i := 934) (by decide +kernel)⟩
theorem lw_p39 : lw_okq (⟨"QuoteGridModel", "isMoreOver", "()Z"⟩, 19) := ⟨⟨by decide +kernel, by decide +kernel⟩, List.mem_of_getElem? (i := 744) (by decide +kernel), List.mem_of_getElem? (i := 940) (by decide +kernel), List.mem_of_getElem? (i := 941) (by decide +kernel)⟩
theorem lw_p40 : lw_okq (⟨"QuoteGridModel", "hasLineOn", "(II)Z"⟩, 19) := ⟨⟨by decide +kernel, by decide +kernel⟩, List.mem_of_getElem? (i := 744) (by decide +kernel), List.mem_of_getElem? (i := 944) (by decide +kernel), List.mem_of_getElem? (i := 945) (by decide +kernel)⟩
theorem lw_p41 : lw_okq (⟨"QuoteGridModel", "isWrongFromSentence", "(I)Z"⟩, 19) := ⟨⟨by decide +kernel, by decide +kernel⟩, List.mem_of_getElem? (i := 744) (by decide +kernel), List.mem_of_getElem? (i := 948) (by decide +kernel), List.mem_of_getElem? (i := 949) (by decide +kernel)⟩
theorem lw_p42 : lw_okq (⟨"QuoteGridModel", "fromSentence", "(I)I"⟩, 19) := ⟨⟨by decide +kernel, by decide +kernel⟩, List.mem_of_getElem? (i := 744) (by decide +kernel), List.mem_of_getElem? (i := 952) (by decide +kernel), List.mem_of_getElem? (i := 953) (by decide +kernel)⟩
theorem lw_p43 : lw_okq (⟨"QuoteGridModel", "moduleOf", "(I)I"⟩, 19) := ⟨⟨by decide +kernel, by decide +kernel⟩, List.mem_of_getElem? (i := 744) (by decide +kernel), List.mem_of_getElem? (i := 956) (by decide +kernel), List.mem_of_getElem? (i := 957) (by decide +kernel)⟩
theorem lw_p44 : lw_okq (⟨"QuoteGridModel", "fromModule", "(II)I"⟩, 19) := ⟨⟨by decide +kernel, by decide +kernel⟩, List.mem_of_getElem? (i := 744) (by decide +kernel), List.mem_of_getElem? (i := 960) (by decide +kernel), List.mem_of_getElem? (i := 961) (by decide +kernel)⟩
theorem lw_p45 : lw_okq (⟨"QuoteGridModel", "isWrongForOthers", "(I)Z"⟩, 19) := ⟨⟨by decide +kernel, by decide +kernel⟩, List.mem_of_getElem? (i := 744) (by decide +kernel), List.mem_of_getElem? (i := 964) (by decide +kernel), List.mem_of_getElem? (i := 965) (by decide +kernel)⟩
theorem lw_p46 : lw_okq (⟨"QuoteGridModel", "putBack", "(I)V"⟩, 19) := ⟨⟨by decide +kernel, by decide +kernel⟩, List.mem_of_getElem? (i := 744) (by decide +kernel), List.mem_of_getElem? (i := 968) (by decide +kernel), List.mem_of_getElem? (i := 969) (by decide +kernel)⟩
theorem lw_p47 : lw_okq (⟨"QuoteGridModel", "unrest", "()I"⟩, 19) := ⟨⟨by decide +kernel, by decide +kernel⟩, List.mem_of_getElem? (i := 744) (by decide +kernel), List.mem_of_getElem? (i := 972) (by decide +kernel), List.mem_of_getElem? (i := 973) (by decide +kernel)⟩
def lw_privs_3 : List (MethodName × Nat) := [(⟨"QuoteGridModel", "layOut", "()V"⟩, 19), (⟨"QuoteGridModel", "isPlaced", "(I)Z"⟩, 19), (⟨"QuoteGridModel", "layQuote", "(I)V"⟩, 19), (⟨"QuoteGridModel", "layArticle", "(I)V"⟩, 19), (⟨"QuoteGridModel", "reasonOf", "(I)I"⟩, 19), (⟨"QuoteGridModel", "isNear", "(I)Z"⟩, 19), (⟨"QuoteGridModel", "between", "(II)I"⟩, 19), (⟨"QuoteGridModel", "isMoreOver", "()Z"⟩, 19), (⟨"QuoteGridModel", "hasLineOn", "(II)Z"⟩, 19), (⟨"QuoteGridModel", "isWrongFromSentence", "(I)Z"⟩, 19), (⟨"QuoteGridModel", "fromSentence", "(I)I"⟩, 19), (⟨"QuoteGridModel", "moduleOf", "(I)I"⟩, 19), (⟨"QuoteGridModel", "fromModule", "(II)I"⟩, 19), (⟨"QuoteGridModel", "isWrongForOthers", "(I)Z"⟩, 19), (⟨"QuoteGridModel", "putBack", "(I)V"⟩, 19), (⟨"QuoteGridModel", "unrest", "()I"⟩, 19)]
theorem lw_r3 : ∀ q ∈ lw_privs_3, lw_okq q := List.forall_mem_cons.mpr ⟨lw_p32, List.forall_mem_cons.mpr ⟨lw_p33, List.forall_mem_cons.mpr ⟨lw_p34, List.forall_mem_cons.mpr ⟨lw_p35, List.forall_mem_cons.mpr ⟨lw_p36, List.forall_mem_cons.mpr ⟨lw_p37, List.forall_mem_cons.mpr ⟨lw_p38, List.forall_mem_cons.mpr ⟨lw_p39, List.forall_mem_cons.mpr ⟨lw_p40, List.forall_mem_cons.mpr ⟨lw_p41, List.forall_mem_cons.mpr ⟨lw_p42, List.forall_mem_cons.mpr ⟨lw_p43, List.forall_mem_cons.mpr ⟨lw_p44, List.forall_mem_cons.mpr ⟨lw_p45, List.forall_mem_cons.mpr ⟨lw_p46, List.forall_mem_cons.mpr ⟨lw_p47, fun _ h => absurd h List.not_mem_nil⟩⟩⟩⟩⟩⟩⟩⟩⟩⟩⟩⟩⟩⟩⟩⟩
theorem lw_p48 : lw_okq (⟨"QuoteGridModel", "balance", "(I)I"⟩, 19) := ⟨⟨by decide +kernel, by decide +kernel⟩, List.mem_of_getElem? (i := 744) (by decide +kernel), List.mem_of_getElem? (i := 976) (by decide +kernel), List.mem_of_getElem? (i := 977) (by decide +kernel)⟩
theorem lw_p49 : lw_okq (⟨"QuoteGridModel", "best", "(I)I"⟩, 19) := ⟨⟨by decide +kernel, by decide +kernel⟩, List.mem_of_getElem? (i := 744) (by decide +kernel), List.mem_of_getElem? (i := 991) (by decide +kernel), List.mem_of_getElem? (i := 992) (by decide +kernel)⟩
theorem lw_p50 : lw_okq (⟨"QuoteGridModel", "placedMany", "()I"⟩, 19) := ⟨⟨by decide +kernel, by decide +kernel⟩, List.mem_of_getElem? (i := 744) (by decide +kernel), List.mem_of_getElem? (i := 1003) (by decide +kernel), List.mem_of_getElem? (i := 1004) (by decide +kernel)⟩
theorem lw_p51 : lw_okq (⟨"QuoteGridModel", "hold", "()V"⟩, 19) := ⟨⟨by decide +kernel, by decide +kernel⟩, List.mem_of_getElem? (i := 744) (by decide +kernel), List.mem_of_getElem? (i := 1027) (by decide +kernel), List.mem_of_getElem? (i := 1028) (by decide +kernel)⟩
theorem lw_p52 : lw_okq (⟨"QuoteGridModel", "here", "()I"⟩, 19) := ⟨⟨by decide +kernel, by decide +kernel⟩, List.mem_of_getElem? (i := 744) (by decide +kernel), List.mem_of_getElem? (i := 1031) (by decide +kernel), List.mem_of_getElem? (i := 1032) (by decide +kernel)⟩
theorem lw_p53 : lw_okq (⟨"QuoteGridModel", "readsItem", "()Z"⟩, 19) := ⟨⟨by decide +kernel, by decide +kernel⟩, List.mem_of_getElem? (i := 744) (by decide +kernel), List.mem_of_getElem? (i := 1035) (by decide +kernel), List.mem_of_getElem? (i := 1036) (by decide +kernel)⟩
theorem lw_p54 : lw_okq (⟨"QuoteGridModel", "takes", "(I)Z"⟩, 19) := ⟨⟨by decide +kernel, by decide +kernel⟩, List.mem_of_getElem? (i := 744) (by decide +kernel), List.mem_of_getElem? (i := 1039) (by decide +kernel), List.mem_of_getElem? (i := 1040) (by decide +kernel)⟩
theorem lw_p55 : lw_okq (⟨"QuoteGridModel", "readsArticle", "()Z"⟩, 19) := ⟨⟨by decide +kernel, by decide +kernel⟩, List.mem_of_getElem? (i := 744) (by decide +kernel), List.mem_of_getElem? (i := 1043) (by decide +kernel), List.mem_of_getElem? (i := 1044) (by decide +kernel)⟩
theorem lw_p56 : lw_okq (⟨"QuoteGridModel", "reads", "(II)Z"⟩, 19) := ⟨⟨by decide +kernel, by decide +kernel⟩, List.mem_of_getElem? (i := 744) (by decide +kernel), List.mem_of_getElem? (i := 1047) (by decide +kernel), List.mem_of_getElem? (i := 1048) (by decide +kernel)⟩
theorem lw_p57 : lw_okq (⟨"QuoteGridModel", "readsSentences", "(I)Z"⟩, 19) := ⟨⟨by decide +kernel, by decide +kernel⟩, List.mem_of_getElem? (i := 744) (by decide +kernel), List.mem_of_getElem? (i := 1052) (by decide +kernel), List.mem_of_getElem? (i := 1053) (by decide +kernel)⟩
theorem lw_p58 : lw_okq (⟨"QuoteGridModel", "readsQuote", "()Z"⟩, 19) := ⟨⟨by decide +kernel, by decide +kernel⟩, List.mem_of_getElem? (i := 744) (by decide +kernel), List.mem_of_getElem? (i := 1056) (by decide +kernel), List.mem_of_getElem? (i := 1057) (by decide +kernel)⟩
theorem lw_p59 : lw_okq (⟨"QuoteGridModel", "exchange", "()V"⟩, 19) := ⟨⟨by decide +kernel, by decide +kernel⟩, List.mem_of_getElem? (i := 744) (by decide +kernel), List.mem_of_getElem? (i := 1060) (by decide +kernel), List.mem_of_getElem? (i := 1061) (by decide +kernel)⟩
theorem lw_p60 : lw_okq (⟨"QuoteGridModel", "sum", "([I)I"⟩, 19) := ⟨⟨by decide +kernel, by decide +kernel⟩, List.mem_of_getElem? (i := 744) (by decide +kernel), List.mem_of_getElem? (i := 1068) (by decide +kernel), List.mem_of_getElem? (i := 1069) (by decide +kernel)⟩
theorem lw_p61 : lw_okq (⟨"QuoteGridModel", "takenMany", "(IIII)I"⟩, 19) := ⟨⟨by decide +kernel, by decide +kernel⟩, List.mem_of_getElem? (i := 744) (by decide +kernel), List.mem_of_getElem? (i := 1072) (by decide +kernel), List.mem_of_getElem? (i := 1073) (by decide +kernel)⟩
def lw_privs_4 : List (MethodName × Nat) := [(⟨"QuoteGridModel", "balance", "(I)I"⟩, 19), (⟨"QuoteGridModel", "best", "(I)I"⟩, 19), (⟨"QuoteGridModel", "placedMany", "()I"⟩, 19), (⟨"QuoteGridModel", "hold", "()V"⟩, 19), (⟨"QuoteGridModel", "here", "()I"⟩, 19), (⟨"QuoteGridModel", "readsItem", "()Z"⟩, 19), (⟨"QuoteGridModel", "takes", "(I)Z"⟩, 19), (⟨"QuoteGridModel", "readsArticle", "()Z"⟩, 19), (⟨"QuoteGridModel", "reads", "(II)Z"⟩, 19), (⟨"QuoteGridModel", "readsSentences", "(I)Z"⟩, 19), (⟨"QuoteGridModel", "readsQuote", "()Z"⟩, 19), (⟨"QuoteGridModel", "exchange", "()V"⟩, 19), (⟨"QuoteGridModel", "sum", "([I)I"⟩, 19), (⟨"QuoteGridModel", "takenMany", "(IIII)I"⟩, 19)]
theorem lw_r4 : ∀ q ∈ lw_privs_4, lw_okq q := List.forall_mem_cons.mpr ⟨lw_p48, List.forall_mem_cons.mpr ⟨lw_p49, List.forall_mem_cons.mpr ⟨lw_p50, List.forall_mem_cons.mpr ⟨lw_p51, List.forall_mem_cons.mpr ⟨lw_p52, List.forall_mem_cons.mpr ⟨lw_p53, List.forall_mem_cons.mpr ⟨lw_p54, List.forall_mem_cons.mpr ⟨lw_p55, List.forall_mem_cons.mpr ⟨lw_p56, List.forall_mem_cons.mpr ⟨lw_p57, List.forall_mem_cons.mpr ⟨lw_p58, List.forall_mem_cons.mpr ⟨lw_p59, List.forall_mem_cons.mpr ⟨lw_p60, List.forall_mem_cons.mpr ⟨lw_p61, fun _ h => absurd h List.not_mem_nil⟩⟩⟩⟩⟩⟩⟩⟩⟩⟩⟩⟩⟩⟩
def lw_privs : List (MethodName × Nat) := lw_privs_1 ++ (lw_privs_2 ++ (lw_privs_3 ++ (lw_privs_4)))
def lw_tbl : List Cond := k2_sels lw_privs ++ tables_1
theorem lw_privs_ok : ∀ q ∈ lw_privs, lw_okq q := by
  show ∀ q ∈ lw_privs_1 ++ (lw_privs_2 ++ (lw_privs_3 ++ (lw_privs_4))), lw_okq q
  exact List.forall_mem_append.mpr ⟨lw_r1, List.forall_mem_append.mpr ⟨lw_r2, List.forall_mem_append.mpr ⟨lw_r3, lw_r4⟩⟩⟩
end
section
def RX0 : String := "QuoteGrid$Article"
def TX0 : u_T := fun k => match k with
  | 0 => ("QuoteGrid$Article", "lines", "[I", true)
  | 1 => ("QuoteGrid$Article", "start", "I", false)
  | 2 => ("QuoteGrid$Article", "length", "I", false)
  | _ => ("QuoteGrid$Article", "sentenceCount", "I", false)
def tyX0 : Nat → FieldType := fun k => match k with
  | 0 => .array .int
  | 1 => .int
  | 2 => .int
  | _ => .int
abbrev wsX00 : List Cond := u_ws RX0 TX0 4
theorem nmX0 : ∀ a, a < 4 → ∀ b, b < 4 → a ≠ b → (TX0 a).2.1 ≠ (TX0 b).2.1 := by decide +kernel
theorem tyX0_ok : ∀ k, k < 4 → parseFieldDescriptor (TX0 k).2.2.1 = some (tyX0 k) := by decide +kernel
abbrev cX0_init : ByteArray := prog_2_method_1_code
def yX0_init : MethodName := ⟨RX0, "<init>", "()V"⟩
abbrev cX0_copyFrom : ByteArray := prog_2_method_2_code
def yX0_copyFrom : MethodName := ⟨RX0, "copyFrom", "(LQuoteGrid$Article;)V"⟩
abbrev cX0_newSentence : ByteArray := prog_2_method_3_code
def yX0_newSentence : MethodName := ⟨RX0, "newSentence", "(I)I"⟩
abbrev cX0_leastLength : ByteArray := prog_2_method_4_code
def yX0_leastLength : MethodName := ⟨RX0, "leastLength", "()I"⟩
def RX1 : String := "QuoteGrid$Content"
def TX1 : u_T := fun k => match k with
  | 0 => ("QuoteGrid$Content", "articles", "[LQuoteGrid$Article;", true)
  | 1 => ("QuoteGrid$Content", "quotes", "[LQuoteGrid$Quote;", true)
  | 2 => ("QuoteGrid$Content", "rules", "[I", true)
  | 3 => ("QuoteGrid$Content", "articleCount", "I", false)
  | _ => ("QuoteGrid$Content", "quoteCount", "I", false)
def tyX1 : Nat → FieldType := fun k => match k with
  | 0 => .array (.object "QuoteGrid$Article")
  | 1 => .array (.object "QuoteGrid$Quote")
  | 2 => .array .int
  | 3 => .int
  | _ => .int
abbrev wsX10 : List Cond := u_ws RX1 TX1 5
theorem nmX1 : ∀ a, a < 5 → ∀ b, b < 5 → a ≠ b → (TX1 a).2.1 ≠ (TX1 b).2.1 := by decide +kernel
theorem tyX1_ok : ∀ k, k < 5 → parseFieldDescriptor (TX1 k).2.2.1 = some (tyX1 k) := by decide +kernel
abbrev cX1_init : ByteArray := prog_3_method_1_code
def yX1_init : MethodName := ⟨RX1, "<init>", "()V"⟩
abbrev cX1_copyFrom : ByteArray := prog_3_method_2_code
def yX1_copyFrom : MethodName := ⟨RX1, "copyFrom", "(LQuoteGrid$Content;)V"⟩
abbrev cX1_hasArticle : ByteArray := prog_3_method_3_code
def yX1_hasArticle : MethodName := ⟨RX1, "hasArticle", "(I)Z"⟩
abbrev cX1_hasLine : ByteArray := prog_3_method_4_code
def yX1_hasLine : MethodName := ⟨RX1, "hasLine", "(II)Z"⟩
abbrev cX1_hasSentence : ByteArray := prog_3_method_5_code
def yX1_hasSentence : MethodName := ⟨RX1, "hasSentence", "(II)Z"⟩
abbrev cX1_hasQuote : ByteArray := prog_3_method_6_code
def yX1_hasQuote : MethodName := ⟨RX1, "hasQuote", "(I)Z"⟩
abbrev cX1_newArticle : ByteArray := prog_3_method_7_code
def yX1_newArticle : MethodName := ⟨RX1, "newArticle", "(II)I"⟩
abbrev cX1_newQuote : ByteArray := prog_3_method_8_code
def yX1_newQuote : MethodName := ⟨RX1, "newQuote", "(IIII)I"⟩
abbrev cX1_dropArticle : ByteArray := prog_3_method_9_code
def yX1_dropArticle : MethodName := ⟨RX1, "dropArticle", "(I)V"⟩
abbrev cX1_dropQuote : ByteArray := prog_3_method_10_code
def yX1_dropQuote : MethodName := ⟨RX1, "dropQuote", "(I)V"⟩
abbrev cX1_placedQuotes : ByteArray := prog_3_method_11_code
def yX1_placedQuotes : MethodName := ⟨RX1, "placedQuotes", "()I"⟩
abbrev cX1_balanceOf : ByteArray := prog_3_method_12_code
def yX1_balanceOf : MethodName := ⟨RX1, "balanceOf", "(I)I"⟩
abbrev cX1_unrest : ByteArray := prog_3_method_13_code
def yX1_unrest : MethodName := ⟨RX1, "unrest", "()I"⟩
def RX2 : String := "QuoteGrid$Flow"
def TX2 : u_T := fun k => match k with
  | 0 => ("QuoteGrid$Flow", "modules", "[I", true)
  | 1 => ("QuoteGrid$Flow", "linesOnPage", "[I", true)
  | 2 => ("QuoteGrid$Flow", "laid", "I", false)
  | 3 => ("QuoteGrid$Flow", "overset", "I", false)
  | _ => ("QuoteGrid$Flow", "jumps", "I", false)
def tyX2 : Nat → FieldType := fun k => match k with
  | 0 => .array .int
  | 1 => .array .int
  | 2 => .int
  | 3 => .int
  | _ => .int
abbrev wsX20 : List Cond := u_ws RX2 TX2 5
theorem nmX2 : ∀ a, a < 5 → ∀ b, b < 5 → a ≠ b → (TX2 a).2.1 ≠ (TX2 b).2.1 := by decide +kernel
theorem tyX2_ok : ∀ k, k < 5 → parseFieldDescriptor (TX2 k).2.2.1 = some (tyX2 k) := by decide +kernel
abbrev cX2_init : ByteArray := prog_4_method_1_code
def yX2_init : MethodName := ⟨RX2, "<init>", "()V"⟩
abbrev cX2_pour : ByteArray := prog_4_method_2_code
def yX2_pour : MethodName := ⟨RX2, "pour", "(LQuoteGrid$Article;I[I)V"⟩
abbrev cX2_moduleOf : ByteArray := prog_4_method_3_code
def yX2_moduleOf : MethodName := ⟨RX2, "moduleOf", "(I)I"⟩
abbrev cX2_hasLineOn : ByteArray := prog_4_method_4_code
def yX2_hasLineOn : MethodName := ⟨RX2, "hasLineOn", "(I)Z"⟩
def RX3 : String := "QuoteGrid$History"
def TX3 : u_T := fun k => match k with
  | 0 => ("QuoteGrid$History", "states", "[LQuoteGrid$State;", true)
  | _ => ("QuoteGrid$History", "size", "I", false)
def tyX3 : Nat → FieldType := fun k => match k with
  | 0 => .array (.object "QuoteGrid$State")
  | _ => .int
abbrev wsX30 : List Cond := u_ws RX3 TX3 2
theorem nmX3 : ∀ a, a < 2 → ∀ b, b < 2 → a ≠ b → (TX3 a).2.1 ≠ (TX3 b).2.1 := by decide +kernel
theorem tyX3_ok : ∀ k, k < 2 → parseFieldDescriptor (TX3 k).2.2.1 = some (tyX3 k) := by decide +kernel
abbrev cX3_init : ByteArray := prog_5_method_1_code
def yX3_init : MethodName := ⟨RX3, "<init>", "()V"⟩
abbrev cX3_keep : ByteArray := prog_5_method_2_code
def yX3_keep : MethodName := ⟨RX3, "keep", "(LQuoteGrid$State;)V"⟩
abbrev cX3_dropOldest : ByteArray := prog_5_method_3_code
def yX3_dropOldest : MethodName := ⟨RX3, "dropOldest", "()V"⟩
abbrev cX3_giveBackTo : ByteArray := prog_5_method_4_code
def yX3_giveBackTo : MethodName := ⟨RX3, "giveBackTo", "(LQuoteGrid$State;)V"⟩
def RX4 : String := "QuoteGrid$Layout"
def TX4 : u_T := fun k => match k with
  | 0 => ("QuoteGrid$Layout", "takers", "[I", true)
  | 1 => ("QuoteGrid$Layout", "flows", "[LQuoteGrid$Flow;", true)
  | _ => ("QuoteGrid$Layout", "articleCount", "I", false)
def tyX4 : Nat → FieldType := fun k => match k with
  | 0 => .array .int
  | 1 => .array (.object "QuoteGrid$Flow")
  | _ => .int
abbrev wsX40 : List Cond := u_ws RX4 TX4 3
theorem nmX4 : ∀ a, a < 3 → ∀ b, b < 3 → a ≠ b → (TX4 a).2.1 ≠ (TX4 b).2.1 := by decide +kernel
theorem tyX4_ok : ∀ k, k < 3 → parseFieldDescriptor (TX4 k).2.2.1 = some (tyX4 k) := by decide +kernel
abbrev cX4_init : ByteArray := prog_6_method_1_code
def yX4_init : MethodName := ⟨RX4, "<init>", "()V"⟩
abbrev cX4_arrange : ByteArray := prog_6_method_2_code
def yX4_arrange : MethodName := ⟨RX4, "arrange", "(LQuoteGrid$Content;)V"⟩
abbrev cX4_cover : ByteArray := prog_6_method_3_code
def yX4_cover : MethodName := ⟨RX4, "cover", "(LQuoteGrid$Quote;I)V"⟩
abbrev cX4_takenBetween : ByteArray := prog_6_method_4_code
def yX4_takenBetween : MethodName := ⟨RX4, "takenBetween", "(III)I"⟩
abbrev cX4_oversetInAll : ByteArray := prog_6_method_5_code
def yX4_oversetInAll : MethodName := ⟨RX4, "oversetInAll", "()I"⟩
abbrev cX4_jumpsInAll : ByteArray := prog_6_method_6_code
def yX4_jumpsInAll : MethodName := ⟨RX4, "jumpsInAll", "()I"⟩
abbrev cX4_isMoreOverset : ByteArray := prog_6_method_7_code
def yX4_isMoreOverset : MethodName := ⟨RX4, "isMoreOverset", "(LQuoteGrid$Layout;)Z"⟩
abbrev cX4_distanceFromSentence : ByteArray := prog_6_method_8_code
def yX4_distanceFromSentence : MethodName := ⟨RX4, "distanceFromSentence", "(LQuoteGrid$Content;LQuoteGrid$Quote;)I"⟩
def RX5 : String := "QuoteGrid$Quote"
def TX5 : u_T := fun k => match k with
  | 0 => ("QuoteGrid$Quote", "article", "I", false)
  | 1 => ("QuoteGrid$Quote", "sentence", "I", false)
  | 2 => ("QuoteGrid$Quote", "width", "I", false)
  | 3 => ("QuoteGrid$Quote", "height", "I", false)
  | 4 => ("QuoteGrid$Quote", "placed", "Z", false)
  | 5 => ("QuoteGrid$Quote", "page", "I", false)
  | 6 => ("QuoteGrid$Quote", "column", "I", false)
  | _ => ("QuoteGrid$Quote", "row", "I", false)
def tyX5 : Nat → FieldType := fun k => match k with
  | 0 => .int
  | 1 => .int
  | 2 => .int
  | 3 => .int
  | 4 => .boolean
  | 5 => .int
  | 6 => .int
  | _ => .int
abbrev wsX50 : List Cond := u_ws RX5 TX5 8
theorem nmX5 : ∀ a, a < 8 → ∀ b, b < 8 → a ≠ b → (TX5 a).2.1 ≠ (TX5 b).2.1 := by decide +kernel
theorem tyX5_ok : ∀ k, k < 8 → parseFieldDescriptor (TX5 k).2.2.1 = some (tyX5 k) := by decide +kernel
abbrev cX5_init : ByteArray := prog_7_method_1_code
def yX5_init : MethodName := ⟨RX5, "<init>", "()V"⟩
abbrev cX5_copyFrom : ByteArray := prog_7_method_2_code
def yX5_copyFrom : MethodName := ⟨RX5, "copyFrom", "(LQuoteGrid$Quote;)V"⟩
abbrev cX5_moveTo : ByteArray := prog_7_method_3_code
def yX5_moveTo : MethodName := ⟨RX5, "moveTo", "(I)V"⟩
abbrev cX5_leaning : ByteArray := prog_7_method_4_code
def yX5_leaning : MethodName := ⟨RX5, "leaning", "()I"⟩
abbrev cX5_distanceFromModule : ByteArray := prog_7_method_5_code
def yX5_distanceFromModule : MethodName := ⟨RX5, "distanceFromModule", "(I)I"⟩
abbrev cX5_distanceFromQuote : ByteArray := prog_7_method_6_code
def yX5_distanceFromQuote : MethodName := ⟨RX5, "distanceFromQuote", "(LQuoteGrid$Quote;)I"⟩
def RX6 : String := "QuoteGrid$Reader"
def TX6 : u_T := fun k => match k with
  | 0 => ("QuoteGrid$Reader", "text", "LQuoteGrid$Text;", true)
  | 1 => ("QuoteGrid$Reader", "draft", "LQuoteGrid$Content;", true)
  | 2 => ("QuoteGrid$Reader", "items", "I", false)
  | 3 => ("QuoteGrid$Reader", "errorPosition", "I", false)
  | _ => ("QuoteGrid$Reader", "position", "I", false)
def tyX6 : Nat → FieldType := fun k => match k with
  | 0 => .object "QuoteGrid$Text"
  | 1 => .object "QuoteGrid$Content"
  | 2 => .int
  | 3 => .int
  | _ => .int
abbrev wsX60 : List Cond := u_ws RX6 TX6 5
theorem nmX6 : ∀ a, a < 5 → ∀ b, b < 5 → a ≠ b → (TX6 a).2.1 ≠ (TX6 b).2.1 := by decide +kernel
theorem tyX6_ok : ∀ k, k < 5 → parseFieldDescriptor (TX6 k).2.2.1 = some (tyX6 k) := by decide +kernel
abbrev cX6_init : ByteArray := prog_8_method_1_code
def yX6_init : MethodName := ⟨RX6, "<init>", "()V"⟩
abbrev cX6_hasFailed : ByteArray := prog_8_method_2_code
def yX6_hasFailed : MethodName := ⟨RX6, "hasFailed", "()Z"⟩
abbrev cX6_read : ByteArray := prog_8_method_3_code
def yX6_read : MethodName := ⟨RX6, "read", "(LQuoteGrid$Content;)V"⟩
abbrev cX6_readItem : ByteArray := prog_8_method_4_code
def yX6_readItem : MethodName := ⟨RX6, "readItem", "()V"⟩
abbrev cX6_readArticle : ByteArray := prog_8_method_5_code
def yX6_readArticle : MethodName := ⟨RX6, "readArticle", "()V"⟩
abbrev cX6_readLines : ByteArray := prog_8_method_6_code
def yX6_readLines : MethodName := ⟨RX6, "readLines", "(LQuoteGrid$Article;)V"⟩
abbrev cX6_readQuote : ByteArray := prog_8_method_7_code
def yX6_readQuote : MethodName := ⟨RX6, "readQuote", "()V"⟩
abbrev cX6_nextSign : ByteArray := prog_8_method_8_code
def yX6_nextSign : MethodName := ⟨RX6, "nextSign", "()I"⟩
abbrev cX6_expect : ByteArray := prog_8_method_9_code
def yX6_expect : MethodName := ⟨RX6, "expect", "(I)V"⟩
abbrev cX6_readNumber : ByteArray := prog_8_method_10_code
def yX6_readNumber : MethodName := ⟨RX6, "readNumber", "(II)I"⟩
abbrev cX6_isDigit : ByteArray := prog_8_method_11_code
def yX6_isDigit : MethodName := ⟨RX6, "isDigit", "(I)Z"⟩
abbrev cX6_failAt : ByteArray := prog_8_method_12_code
def yX6_failAt : MethodName := ⟨RX6, "failAt", "(I)V"⟩
def RX7 : String := "QuoteGrid$State"
def TX7 : u_T := fun k => match k with
  | 0 => ("QuoteGrid$State", "content", "LQuoteGrid$Content;", true)
  | 1 => ("QuoteGrid$State", "snapshots", "[LQuoteGrid$Content;", true)
  | _ => ("QuoteGrid$State", "snapshotTaken", "[Z", true)
def tyX7 : Nat → FieldType := fun k => match k with
  | 0 => .object "QuoteGrid$Content"
  | 1 => .array (.object "QuoteGrid$Content")
  | _ => .array .boolean
abbrev wsX70 : List Cond := u_ws RX7 TX7 3
theorem nmX7 : ∀ a, a < 3 → ∀ b, b < 3 → a ≠ b → (TX7 a).2.1 ≠ (TX7 b).2.1 := by decide +kernel
theorem tyX7_ok : ∀ k, k < 3 → parseFieldDescriptor (TX7 k).2.2.1 = some (tyX7 k) := by decide +kernel
abbrev cX7_init : ByteArray := prog_9_method_1_code
def yX7_init : MethodName := ⟨RX7, "<init>", "()V"⟩
abbrev cX7_copyFrom : ByteArray := prog_9_method_2_code
def yX7_copyFrom : MethodName := ⟨RX7, "copyFrom", "(LQuoteGrid$State;)V"⟩
abbrev cX7_snapshotCount : ByteArray := prog_9_method_3_code
def yX7_snapshotCount : MethodName := ⟨RX7, "snapshotCount", "()I"⟩
def RX8 : String := "QuoteGrid$Text"
def TX8 : u_T := fun k => match k with
  | 0 => ("QuoteGrid$Text", "signs", "[I", true)
  | _ => ("QuoteGrid$Text", "length", "I", false)
def tyX8 : Nat → FieldType := fun k => match k with
  | 0 => .array .int
  | _ => .int
abbrev wsX80 : List Cond := u_ws RX8 TX8 2
theorem nmX8 : ∀ a, a < 2 → ∀ b, b < 2 → a ≠ b → (TX8 a).2.1 ≠ (TX8 b).2.1 := by decide +kernel
theorem tyX8_ok : ∀ k, k < 2 → parseFieldDescriptor (TX8 k).2.2.1 = some (tyX8 k) := by decide +kernel
abbrev cX8_init : ByteArray := prog_10_method_1_code
def yX8_init : MethodName := ⟨RX8, "<init>", "()V"⟩
def RX9 : String := "QuoteGrid$Trial"
def TX9 : u_T := fun k => match k with
  | 0 => ("QuoteGrid$Trial", "plan", "LQuoteGrid$Content;", true)
  | 1 => ("QuoteGrid$Trial", "before", "LQuoteGrid$Layout;", true)
  | 2 => ("QuoteGrid$Trial", "after", "LQuoteGrid$Layout;", true)
  | 3 => ("QuoteGrid$Trial", "quote", "I", false)
  | 4 => ("QuoteGrid$Trial", "bestModule", "I", false)
  | _ => ("QuoteGrid$Trial", "bestUnrest", "I", false)
def tyX9 : Nat → FieldType := fun k => match k with
  | 0 => .object "QuoteGrid$Content"
  | 1 => .object "QuoteGrid$Layout"
  | 2 => .object "QuoteGrid$Layout"
  | 3 => .int
  | 4 => .int
  | _ => .int
abbrev wsX90 : List Cond := u_ws RX9 TX9 6
theorem nmX9 : ∀ a, a < 6 → ∀ b, b < 6 → a ≠ b → (TX9 a).2.1 ≠ (TX9 b).2.1 := by decide +kernel
theorem tyX9_ok : ∀ k, k < 6 → parseFieldDescriptor (TX9 k).2.2.1 = some (tyX9 k) := by decide +kernel
abbrev cX9_init : ByteArray := prog_11_method_1_code
def yX9_init : MethodName := ⟨RX9, "<init>", "()V"⟩
abbrev cX9_prepare : ByteArray := prog_11_method_2_code
def yX9_prepare : MethodName := ⟨RX9, "prepare", "(LQuoteGrid$Content;I)V"⟩
abbrev cX9_reasonAt : ByteArray := prog_11_method_3_code
def yX9_reasonAt : MethodName := ⟨RX9, "reasonAt", "(I)I"⟩
abbrev cX9_isTooNearToAnother : ByteArray := prog_11_method_4_code
def yX9_isTooNearToAnother : MethodName := ⟨RX9, "isTooNearToAnother", "(LQuoteGrid$Quote;)Z"⟩
abbrev cX9_reasonInLayout : ByteArray := prog_11_method_5_code
def yX9_reasonInLayout : MethodName := ⟨RX9, "reasonInLayout", "(LQuoteGrid$Quote;)I"⟩
abbrev cX9_isBadlyDistant : ByteArray := prog_11_method_6_code
def yX9_isBadlyDistant : MethodName := ⟨RX9, "isBadlyDistant", "(LQuoteGrid$Quote;)Z"⟩
abbrev cX9_seekBest : ByteArray := prog_11_method_7_code
def yX9_seekBest : MethodName := ⟨RX9, "seekBest", "(LQuoteGrid$Content;I)V"⟩
abbrev cX9_unrestAt : ByteArray := prog_11_method_8_code
def yX9_unrestAt : MethodName := ⟨RX9, "unrestAt", "(I)I"⟩
abbrev cX9_greatestLength : ByteArray := prog_11_method_9_code
def yX9_greatestLength : MethodName := ⟨RX9, "greatestLength", "(LQuoteGrid$Content;I)I"⟩
def RX10 : String := "QuoteGrid"
def TX10 : u_T := fun k => match k with
  | 0 => ("QuoteGrid", "state", "LQuoteGrid$State;", true)
  | 1 => ("QuoteGrid", "history", "LQuoteGrid$History;", true)
  | 2 => ("QuoteGrid", "reader", "LQuoteGrid$Reader;", true)
  | 3 => ("QuoteGrid", "text", "LQuoteGrid$Text;", true)
  | 4 => ("QuoteGrid", "trial", "LQuoteGrid$Trial;", true)
  | 5 => ("QuoteGrid", "layout", "LQuoteGrid$Layout;", true)
  | _ => ("QuoteGrid", "layoutIsOld", "Z", false)
def tyX10 : Nat → FieldType := fun k => match k with
  | 0 => .object "QuoteGrid$State"
  | 1 => .object "QuoteGrid$History"
  | 2 => .object "QuoteGrid$Reader"
  | 3 => .object "QuoteGrid$Text"
  | 4 => .object "QuoteGrid$Trial"
  | 5 => .object "QuoteGrid$Layout"
  | _ => .boolean
abbrev wsX100 : List Cond := u_ws RX10 TX10 7
theorem nmX10 : ∀ a, a < 7 → ∀ b, b < 7 → a ≠ b → (TX10 a).2.1 ≠ (TX10 b).2.1 := by decide +kernel
theorem tyX10_ok : ∀ k, k < 7 → parseFieldDescriptor (TX10 k).2.2.1 = some (tyX10 k) := by decide +kernel
abbrev cX10_init : ByteArray := prog_1_method_1_code
def yX10_init : MethodName := ⟨RX10, "<init>", "()V"⟩
abbrev cX10_addArticle : ByteArray := prog_1_method_2_code
def yX10_addArticle : MethodName := ⟨RX10, "addArticle", "(II)I"⟩
abbrev cX10_removeArticle : ByteArray := prog_1_method_3_code
def yX10_removeArticle : MethodName := ⟨RX10, "removeArticle", "(I)I"⟩
abbrev cX10_setArticle : ByteArray := prog_1_method_4_code
def yX10_setArticle : MethodName := ⟨RX10, "setArticle", "(III)I"⟩
abbrev cX10_addSentence : ByteArray := prog_1_method_5_code
def yX10_addSentence : MethodName := ⟨RX10, "addSentence", "(II)I"⟩
abbrev cX10_addQuote : ByteArray := prog_1_method_6_code
def yX10_addQuote : MethodName := ⟨RX10, "addQuote", "(IIII)I"⟩
abbrev cX10_removeQuote : ByteArray := prog_1_method_7_code
def yX10_removeQuote : MethodName := ⟨RX10, "removeQuote", "(I)I"⟩
abbrev cX10_place : ByteArray := prog_1_method_8_code
def yX10_place : MethodName := ⟨RX10, "place", "(IIII)I"⟩
abbrev cX10_lift : ByteArray := prog_1_method_9_code
def yX10_lift : MethodName := ⟨RX10, "lift", "(I)I"⟩
abbrev cX10_floatAll : ByteArray := prog_1_method_10_code
def yX10_floatAll : MethodName := ⟨RX10, "floatAll", "()I"⟩
abbrev cX10_setRule : ByteArray := prog_1_method_11_code
def yX10_setRule : MethodName := ⟨RX10, "setRule", "(II)I"⟩
abbrev cX10_take : ByteArray := prog_1_method_12_code
def yX10_take : MethodName := ⟨RX10, "take", "(I)I"⟩
abbrev cX10_restore : ByteArray := prog_1_method_13_code
def yX10_restore : MethodName := ⟨RX10, "restore", "(I)I"⟩
abbrev cX10_undo : ByteArray := prog_1_method_14_code
def yX10_undo : MethodName := ⟨RX10, "undo", "()I"⟩
abbrev cX10_append : ByteArray := prog_1_method_15_code
def yX10_append : MethodName := ⟨RX10, "append", "(I)I"⟩
abbrev cX10_clearText : ByteArray := prog_1_method_16_code
def yX10_clearText : MethodName := ⟨RX10, "clearText", "()I"⟩
abbrev cX10_load : ByteArray := prog_1_method_17_code
def yX10_load : MethodName := ⟨RX10, "load", "()I"⟩
abbrev cX10_count : ByteArray := prog_1_method_18_code
def yX10_count : MethodName := ⟨RX10, "count", "(I)I"⟩
abbrev cX10_article : ByteArray := prog_1_method_19_code
def yX10_article : MethodName := ⟨RX10, "article", "(II)I"⟩
abbrev cX10_lineAt : ByteArray := prog_1_method_20_code
def yX10_lineAt : MethodName := ⟨RX10, "lineAt", "(II)I"⟩
abbrev cX10_sentence : ByteArray := prog_1_method_21_code
def yX10_sentence : MethodName := ⟨RX10, "sentence", "(III)I"⟩
abbrev cX10_quote : ByteArray := prog_1_method_22_code
def yX10_quote : MethodName := ⟨RX10, "quote", "(II)I"⟩
abbrev cX10_module : ByteArray := prog_1_method_23_code
def yX10_module : MethodName := ⟨RX10, "module", "(I)I"⟩
abbrev cX10_page : ByteArray := prog_1_method_24_code
def yX10_page : MethodName := ⟨RX10, "page", "(II)I"⟩
abbrev cX10_refusal : ByteArray := prog_1_method_25_code
def yX10_refusal : MethodName := ⟨RX10, "refusal", "(IIII)I"⟩
abbrev cX10_bestPlace : ByteArray := prog_1_method_26_code
def yX10_bestPlace : MethodName := ⟨RX10, "bestPlace", "(II)I"⟩
abbrev cX10_troubled : ByteArray := prog_1_method_27_code
def yX10_troubled : MethodName := ⟨RX10, "troubled", "()I"⟩
abbrev cX10_roomFor : ByteArray := prog_1_method_28_code
def yX10_roomFor : MethodName := ⟨RX10, "roomFor", "(I)I"⟩
abbrev cX10_beginAction : ByteArray := prog_1_method_29_code
def yX10_beginAction : MethodName := ⟨RX10, "beginAction", "()V"⟩
abbrev cX10_currentLayout : ByteArray := prog_1_method_30_code
def yX10_currentLayout : MethodName := ⟨RX10, "currentLayout", "()LQuoteGrid$Layout;"⟩
abbrev cX10_isWithin : ByteArray := prog_1_method_31_code
def yX10_isWithin : MethodName := ⟨RX10, "isWithin", "(III)Z"⟩
abbrev cX10_isModule : ByteArray := prog_1_method_32_code
def yX10_isModule : MethodName := ⟨RX10, "isModule", "(I)Z"⟩
abbrev cX10_isPlace : ByteArray := prog_1_method_33_code
def yX10_isPlace : MethodName := ⟨RX10, "isPlace", "(III)Z"⟩
abbrev cX10_moduleAt : ByteArray := prog_1_method_34_code
def yX10_moduleAt : MethodName := ⟨RX10, "moduleAt", "(III)I"⟩
abbrev cX10_pageOf : ByteArray := prog_1_method_35_code
def yX10_pageOf : MethodName := ⟨RX10, "pageOf", "(I)I"⟩
abbrev cX10_columnOf : ByteArray := prog_1_method_36_code
def yX10_columnOf : MethodName := ⟨RX10, "columnOf", "(I)I"⟩
abbrev cX10_rowOf : ByteArray := prog_1_method_37_code
def yX10_rowOf : MethodName := ⟨RX10, "rowOf", "(I)I"⟩
abbrev cX10_differenceOfRuns : ByteArray := prog_1_method_38_code
def yX10_differenceOfRuns : MethodName := ⟨RX10, "differenceOfRuns", "(IIII)I"⟩
def RX11 : String := "QuoteGridModel"
def TX11 : u_T := fun k => match k with
  | 0 => ("QuoteGridModel", "thrown", "I", false)
  | 1 => ("QuoteGridModel", "s", "[I", true)
  | 2 => ("QuoteGridModel", "aside", "[I", true)
  | 3 => ("QuoteGridModel", "saved", "[I", true)
  | 4 => ("QuoteGridModel", "savedMany", "I", false)
  | 5 => ("QuoteGridModel", "text", "[I", true)
  | 6 => ("QuoteGridModel", "length", "I", false)
  | 7 => ("QuoteGridModel", "taken", "[I", true)
  | 8 => ("QuoteGridModel", "lines", "[I", true)
  | 9 => ("QuoteGridModel", "over", "[I", true)
  | 10 => ("QuoteGridModel", "jumps", "[I", true)
  | 11 => ("QuoteGridModel", "overThen", "[I", true)
  | 12 => ("QuoteGridModel", "wasPlaced", "I", false)
  | 13 => ("QuoteGridModel", "wasOn", "I", false)
  | 14 => ("QuoteGridModel", "wasColumn", "I", false)
  | 15 => ("QuoteGridModel", "wasRow", "I", false)
  | 16 => ("QuoteGridModel", "bestUnrest", "I", false)
  | 17 => ("QuoteGridModel", "next", "I", false)
  | _ => ("QuoteGridModel", "number", "I", false)
def tyX11 : Nat → FieldType := fun k => match k with
  | 0 => .int
  | 1 => .array .int
  | 2 => .array .int
  | 3 => .array .int
  | 4 => .int
  | 5 => .array .int
  | 6 => .int
  | 7 => .array .int
  | 8 => .array .int
  | 9 => .array .int
  | 10 => .array .int
  | 11 => .array .int
  | 12 => .int
  | 13 => .int
  | 14 => .int
  | 15 => .int
  | 16 => .int
  | 17 => .int
  | _ => .int
abbrev wsX110 : List Cond := u_ws RX11 TX11 19
theorem nmX11 : ∀ a, a < 19 → ∀ b, b < 19 → a ≠ b → (TX11 a).2.1 ≠ (TX11 b).2.1 := by decide +kernel
theorem tyX11_ok : ∀ k, k < 19 → parseFieldDescriptor (TX11 k).2.2.1 = some (tyX11 k) := by decide +kernel
abbrev cX11_init : ByteArray := prog_13_method_1_code
def yX11_init : MethodName := ⟨RX11, "<init>", "()V"⟩
abbrev cX11_in : ByteArray := prog_13_method_3_code
def yX11_in : MethodName := ⟨RX11, "in", "(III)Z"⟩
abbrev cX11_more : ByteArray := prog_13_method_4_code
def yX11_more : MethodName := ⟨RX11, "more", "(II)I"⟩
abbrev cX11_apart : ByteArray := prog_13_method_5_code
def yX11_apart : MethodName := ⟨RX11, "apart", "(II)I"⟩
abbrev cX11_act : ByteArray := prog_13_method_6_code
def yX11_act : MethodName := ⟨RX11, "act", "()V"⟩
abbrev cX11_hold : ByteArray := prog_13_method_7_code
def yX11_hold : MethodName := ⟨RX11, "hold", "()V"⟩
abbrev cX11_exchange : ByteArray := prog_13_method_8_code
def yX11_exchange : MethodName := ⟨RX11, "exchange", "()V"⟩
abbrev cX11_isArticle : ByteArray := prog_13_method_9_code
def yX11_isArticle : MethodName := ⟨RX11, "isArticle", "(I)Z"⟩
abbrev cX11_isQuote : ByteArray := prog_13_method_10_code
def yX11_isQuote : MethodName := ⟨RX11, "isQuote", "(I)Z"⟩
abbrev cX11_of : ByteArray := prog_13_method_11_code
def yX11_of : MethodName := ⟨RX11, "of", "(II)I"⟩
abbrev cX11_ofQuote : ByteArray := prog_13_method_12_code
def yX11_ofQuote : MethodName := ⟨RX11, "ofQuote", "(II)I"⟩
abbrev cX11_setQuote : ByteArray := prog_13_method_13_code
def yX11_setQuote : MethodName := ⟨RX11, "setQuote", "(III)V"⟩
abbrev cX11_isSentence : ByteArray := prog_13_method_14_code
def yX11_isSentence : MethodName := ⟨RX11, "isSentence", "(II)Z"⟩
abbrev cX11_isPlaced : ByteArray := prog_13_method_15_code
def yX11_isPlaced : MethodName := ⟨RX11, "isPlaced", "(I)Z"⟩
abbrev cX11_layQuote : ByteArray := prog_13_method_16_code
def yX11_layQuote : MethodName := ⟨RX11, "layQuote", "(I)V"⟩
abbrev cX11_layArticle : ByteArray := prog_13_method_17_code
def yX11_layArticle : MethodName := ⟨RX11, "layArticle", "(I)V"⟩
abbrev cX11_layOut : ByteArray := prog_13_method_18_code
def yX11_layOut : MethodName := ⟨RX11, "layOut", "()V"⟩
abbrev cX11_noteOver : ByteArray := prog_13_method_19_code
def yX11_noteOver : MethodName := ⟨RX11, "noteOver", "()V"⟩
abbrev cX11_isMoreOver : ByteArray := prog_13_method_20_code
def yX11_isMoreOver : MethodName := ⟨RX11, "isMoreOver", "()Z"⟩
abbrev cX11_gap : ByteArray := prog_13_method_21_code
def yX11_gap : MethodName := ⟨RX11, "gap", "(IIII)I"⟩
abbrev cX11_fromModule : ByteArray := prog_13_method_22_code
def yX11_fromModule : MethodName := ⟨RX11, "fromModule", "(II)I"⟩
abbrev cX11_between : ByteArray := prog_13_method_23_code
def yX11_between : MethodName := ⟨RX11, "between", "(II)I"⟩
abbrev cX11_moduleOf : ByteArray := prog_13_method_24_code
def yX11_moduleOf : MethodName := ⟨RX11, "moduleOf", "(I)I"⟩
abbrev cX11_fromSentence : ByteArray := prog_13_method_25_code
def yX11_fromSentence : MethodName := ⟨RX11, "fromSentence", "(I)I"⟩
abbrev cX11_isWrongFromSentence : ByteArray := prog_13_method_26_code
def yX11_isWrongFromSentence : MethodName := ⟨RX11, "isWrongFromSentence", "(I)Z"⟩
abbrev cX11_balance : ByteArray := prog_13_method_27_code
def yX11_balance : MethodName := ⟨RX11, "balance", "(I)I"⟩
abbrev cX11_unrest : ByteArray := prog_13_method_28_code
def yX11_unrest : MethodName := ⟨RX11, "unrest", "()I"⟩
abbrev cX11_put : ByteArray := prog_13_method_29_code
def yX11_put : MethodName := ⟨RX11, "put", "(IIII)V"⟩
abbrev cX11_hasLineOn : ByteArray := prog_13_method_30_code
def yX11_hasLineOn : MethodName := ⟨RX11, "hasLineOn", "(II)Z"⟩
abbrev cX11_isNear : ByteArray := prog_13_method_31_code
def yX11_isNear : MethodName := ⟨RX11, "isNear", "(I)Z"⟩
abbrev cX11_isWrongForOthers : ByteArray := prog_13_method_32_code
def yX11_isWrongForOthers : MethodName := ⟨RX11, "isWrongForOthers", "(I)Z"⟩
abbrev cX11_reasonOf : ByteArray := prog_13_method_33_code
def yX11_reasonOf : MethodName := ⟨RX11, "reasonOf", "(I)I"⟩
abbrev cX11_takeUp : ByteArray := prog_13_method_34_code
def yX11_takeUp : MethodName := ⟨RX11, "takeUp", "(I)V"⟩
abbrev cX11_putBack : ByteArray := prog_13_method_35_code
def yX11_putBack : MethodName := ⟨RX11, "putBack", "(I)V"⟩
abbrev cX11_refusalOf : ByteArray := prog_13_method_36_code
def yX11_refusalOf : MethodName := ⟨RX11, "refusalOf", "(IIII)I"⟩
abbrev cX11_best : ByteArray := prog_13_method_37_code
def yX11_best : MethodName := ⟨RX11, "best", "(I)I"⟩
abbrev cX11_putArticle : ByteArray := prog_13_method_38_code
def yX11_putArticle : MethodName := ⟨RX11, "putArticle", "(II)V"⟩
abbrev cX11_addArticle : ByteArray := prog_13_method_39_code
def yX11_addArticle : MethodName := ⟨RX11, "addArticle", "(II)I"⟩
abbrev cX11_takeQuote : ByteArray := prog_13_method_40_code
def yX11_takeQuote : MethodName := ⟨RX11, "takeQuote", "(I)V"⟩
abbrev cX11_removeArticle : ByteArray := prog_13_method_41_code
def yX11_removeArticle : MethodName := ⟨RX11, "removeArticle", "(I)I"⟩
abbrev cX11_lastSentence : ByteArray := prog_13_method_42_code
def yX11_lastSentence : MethodName := ⟨RX11, "lastSentence", "(I)I"⟩
abbrev cX11_setArticle : ByteArray := prog_13_method_43_code
def yX11_setArticle : MethodName := ⟨RX11, "setArticle", "(III)I"⟩
abbrev cX11_putSentence : ByteArray := prog_13_method_44_code
def yX11_putSentence : MethodName := ⟨RX11, "putSentence", "(II)I"⟩
abbrev cX11_addSentence : ByteArray := prog_13_method_45_code
def yX11_addSentence : MethodName := ⟨RX11, "addSentence", "(II)I"⟩
abbrev cX11_putQuote : ByteArray := prog_13_method_46_code
def yX11_putQuote : MethodName := ⟨RX11, "putQuote", "(IIII)V"⟩
abbrev cX11_addQuote : ByteArray := prog_13_method_47_code
def yX11_addQuote : MethodName := ⟨RX11, "addQuote", "(IIII)I"⟩
abbrev cX11_removeQuote : ByteArray := prog_13_method_48_code
def yX11_removeQuote : MethodName := ⟨RX11, "removeQuote", "(I)I"⟩
abbrev cX11_isPlace : ByteArray := prog_13_method_49_code
def yX11_isPlace : MethodName := ⟨RX11, "isPlace", "(III)Z"⟩
abbrev cX11_place : ByteArray := prog_13_method_50_code
def yX11_place : MethodName := ⟨RX11, "place", "(IIII)I"⟩
abbrev cX11_lift : ByteArray := prog_13_method_51_code
def yX11_lift : MethodName := ⟨RX11, "lift", "(I)I"⟩
abbrev cX11_floatAll : ByteArray := prog_13_method_52_code
def yX11_floatAll : MethodName := ⟨RX11, "floatAll", "()I"⟩
abbrev cX11_setRule : ByteArray := prog_13_method_53_code
def yX11_setRule : MethodName := ⟨RX11, "setRule", "(II)I"⟩
abbrev cX11_placedMany : ByteArray := prog_13_method_54_code
def yX11_placedMany : MethodName := ⟨RX11, "placedMany", "()I"⟩
abbrev cX11_take : ByteArray := prog_13_method_55_code
def yX11_take : MethodName := ⟨RX11, "take", "(I)I"⟩
abbrev cX11_restore : ByteArray := prog_13_method_56_code
def yX11_restore : MethodName := ⟨RX11, "restore", "(I)I"⟩
abbrev cX11_undo : ByteArray := prog_13_method_57_code
def yX11_undo : MethodName := ⟨RX11, "undo", "()I"⟩
abbrev cX11_append : ByteArray := prog_13_method_58_code
def yX11_append : MethodName := ⟨RX11, "append", "(I)I"⟩
abbrev cX11_clearText : ByteArray := prog_13_method_59_code
def yX11_clearText : MethodName := ⟨RX11, "clearText", "()I"⟩
abbrev cX11_here : ByteArray := prog_13_method_60_code
def yX11_here : MethodName := ⟨RX11, "here", "()I"⟩
abbrev cX11_reads : ByteArray := prog_13_method_61_code
def yX11_reads : MethodName := ⟨RX11, "reads", "(II)Z"⟩
abbrev cX11_takes : ByteArray := prog_13_method_62_code
def yX11_takes : MethodName := ⟨RX11, "takes", "(I)Z"⟩
abbrev cX11_readsSentences : ByteArray := prog_13_method_63_code
def yX11_readsSentences : MethodName := ⟨RX11, "readsSentences", "(I)Z"⟩
abbrev cX11_readsArticle : ByteArray := prog_13_method_64_code
def yX11_readsArticle : MethodName := ⟨RX11, "readsArticle", "()Z"⟩
abbrev cX11_readsQuote : ByteArray := prog_13_method_65_code
def yX11_readsQuote : MethodName := ⟨RX11, "readsQuote", "()Z"⟩
abbrev cX11_readsItem : ByteArray := prog_13_method_66_code
def yX11_readsItem : MethodName := ⟨RX11, "readsItem", "()Z"⟩
abbrev cX11_load : ByteArray := prog_13_method_67_code
def yX11_load : MethodName := ⟨RX11, "load", "()I"⟩
abbrev cX11_sum : ByteArray := prog_13_method_68_code
def yX11_sum : MethodName := ⟨RX11, "sum", "([I)I"⟩
abbrev cX11_takenMany : ByteArray := prog_13_method_69_code
def yX11_takenMany : MethodName := ⟨RX11, "takenMany", "(IIII)I"⟩
abbrev cX11_count : ByteArray := prog_13_method_70_code
def yX11_count : MethodName := ⟨RX11, "count", "(I)I"⟩
abbrev cX11_article : ByteArray := prog_13_method_71_code
def yX11_article : MethodName := ⟨RX11, "article", "(II)I"⟩
abbrev cX11_lineAt : ByteArray := prog_13_method_72_code
def yX11_lineAt : MethodName := ⟨RX11, "lineAt", "(II)I"⟩
abbrev cX11_sentence : ByteArray := prog_13_method_73_code
def yX11_sentence : MethodName := ⟨RX11, "sentence", "(III)I"⟩
abbrev cX11_quote : ByteArray := prog_13_method_74_code
def yX11_quote : MethodName := ⟨RX11, "quote", "(II)I"⟩
abbrev cX11_module : ByteArray := prog_13_method_75_code
def yX11_module : MethodName := ⟨RX11, "module", "(I)I"⟩
abbrev cX11_page : ByteArray := prog_13_method_76_code
def yX11_page : MethodName := ⟨RX11, "page", "(II)I"⟩
abbrev cX11_refusal : ByteArray := prog_13_method_77_code
def yX11_refusal : MethodName := ⟨RX11, "refusal", "(IIII)I"⟩
abbrev cX11_bestPlace : ByteArray := prog_13_method_78_code
def yX11_bestPlace : MethodName := ⟨RX11, "bestPlace", "(II)I"⟩
abbrev cX11_troubled : ByteArray := prog_13_method_79_code
def yX11_troubled : MethodName := ⟨RX11, "troubled", "()I"⟩
abbrev cX11_roomFor : ByteArray := prog_13_method_80_code
def yX11_roomFor : MethodName := ⟨RX11, "roomFor", "(I)I"⟩
def RJ9 : String := "java/lang/Math"
abbrev cJ9_abs_0f7a4 : ByteArray := prog_14_method_59_code
def yJ9_abs_0f7a4 : MethodName := ⟨RJ9, "abs", "(I)I"⟩
abbrev cJ9_max_7cf53 : ByteArray := prog_14_method_65_code
def yJ9_max_7cf53 : MethodName := ⟨RJ9, "max", "(II)I"⟩
abbrev cJ9_min_7cf53 : ByteArray := prog_14_method_69_code
def yJ9_min_7cf53 : MethodName := ⟨RJ9, "min", "(II)I"⟩
def RJ10 : String := "java/lang/System"
def RJ7 : String := "java/util/Arrays"
abbrev cJ7_fill_53178 : ByteArray := prog_16_method_103_code
def yJ7_fill_53178 : MethodName := ⟨RJ7, "fill", "([II)V"⟩
def RL : String := "QuoteGridLaw"
abbrev cL_law : ByteArray := code
def yL_law : MethodName := ⟨RL, "law", "([I)Z"⟩
abbrev vwCl : List vw_C := [(RX0, TX0, 4), (RX1, TX1, 5), (RX2, TX2, 5), (RX3, TX3, 2), (RX4, TX4, 3), (RX5, TX5, 8), (RX6, TX6, 5), (RX7, TX7, 3), (RX8, TX8, 2), (RX9, TX9, 6), (RX10, TX10, 7), (RX11, TX11, 19)]
end
section
/-! THE SMALL MACHINE. After the two constructors no object is ever made, and no reference field changes but the order of the history's states. So the world is a fixed family of cells (t, j): t a tag (0..11 the classes of vwCl, 12.. arrays by their part), j a number among those of the tag; what changes are whole numbers, m.1 t j k (field or place k of the cell), and m.2 (which state stands at which place of the history's row). An instruction is an operator on conditions (mo_..), a method's code a list of (pc, operator); mv_run walks it; mv_Snd says that an operator is sound for the machine at a pc. -/
abbrev mv_V : Type := Int ⊕ (Nat × Nat)
abbrev mv_L : Type := List (Option mv_V)
abbrev mv_M : Type := (Nat → Nat → Nat → Int) × (Nat → Nat)
abbrev mv_K : Type := Nat → mv_L → List mv_V → mv_M → Prop
abbrev mv_R : Type := Option mv_V → mv_M → Prop
abbrev mv_O : Type := mv_K → mv_R → mv_L → List mv_V → mv_M → Prop
-- the family of cells
def mv_cnt (t : Nat) : Nat := ([120, 20, 18, 1, 3, 160, 1, 6, 1, 1, 1, 1, 20, 20, 20, 120, 6, 6, 1, 1, 3, 3, 18, 18, 1, 1, 1, 1, 1, 1, 1, 1, 1] : List Nat).getD t 0
def mv_len (t : Nat) : Nat := ([0, 0, 0, 0, 0, 0, 0, 0, 0, 0, 0, 0, 6, 8, 3, 8, 2, 2, 5, 140, 360, 6, 200, 3, 407, 407, 2035, 140, 360, 1200, 6, 6, 6] : List Nat).getD t 0
/-- an array of references? -/
def mv_rt (t : Nat) : Bool := Nat.beq t 12 || Nat.beq t 13 || Nat.beq t 16 || Nat.beq t 18 || Nat.beq t 21
/-- which array class: 0 int[], 1 boolean[], 2 Article[], 3 Quote[], 4 Content[], 5 State[], 6 Flow[] -/
def mv_ac (t : Nat) : Nat := ([0, 0, 0, 0, 0, 0, 0, 0, 0, 0, 0, 0, 2, 3, 0, 0, 4, 1, 5, 0, 0, 6] : List Nat).getD t 0
def mv_at (i : Nat) : FieldType := ([.int, .boolean, .object RX0, .object RX5, .object RX1, .object RX7, .object RX2] : List FieldType).getD i .int
/-- the fields of a class: none a number, some (t, a, b) a reference to the cell (t, a * j + b) -/
def mv_fd (C : Nat) : List (Option (Nat × Nat × Nat)) :=
  ([ [some (15, 1, 0), none, none, none],
     [some (12, 1, 0), some (13, 1, 0), some (14, 1, 0), none, none],
     [some (22, 1, 0), some (23, 1, 0), none, none, none],
     [some (18, 0, 0), none],
     [some (20, 1, 0), some (21, 1, 0), none],
     [none, none, none, none, none, none, none, none],
     [some (8, 0, 0), some (1, 0, 19), none, none, none],
     [some (1, 3, 0), some (16, 1, 0), some (17, 1, 0)],
     [some (19, 0, 0), none],
     [some (1, 0, 18), some (4, 0, 0), some (4, 0, 1), none, none, none],
     [some (7, 0, 0), some (3, 0, 0), some (6, 0, 0), some (8, 0, 0), some (9, 0, 0), some (4, 0, 2), none],
     [none, some (24, 0, 0), some (25, 0, 0), some (26, 0, 0), none, some (27, 0, 0), none, some (28, 0, 0), some (29, 0, 0), some (30, 0, 0), some (31, 0, 0), some (32, 0, 0), none, none, none, none, none, none, none] ] : List (List (Option (Nat × Nat × Nat)))).getD C []
/-- the cells that an array of references holds: their tag, their number -/
def mv_et (t : Nat) : Nat := cond (Nat.beq t 12) 0 (cond (Nat.beq t 13) 5 (cond (Nat.beq t 16) 1 (cond (Nat.beq t 18) 7 2)))
def mv_ei (M : mv_M) (t j i : Nat) : Nat := cond (Nat.beq t 12) (6 * j + i) (cond (Nat.beq t 13) (8 * j + i) (cond (Nat.beq t 16) (3 * j + 1 + i) (cond (Nat.beq t 18) (M.2 i) (6 * j + i))))
def mv_IX : List (Nat × Nat) := (List.range 33).flatMap (fun t => (List.range (mv_cnt t)).map (fun j => (t, j)))
theorem mv_IX_mem {t j : Nat} (ht : t < 33) (hj : j < mv_cnt t) : (t, j) ∈ mv_IX :=
  List.mem_flatMap.mpr ⟨t, List.mem_range.mpr ht, List.mem_map.mpr ⟨j, List.mem_range.mpr hj, rfl⟩⟩
theorem mv_mem_IX {x : Nat × Nat} (h : x ∈ mv_IX) : x.1 < 33 ∧ x.2 < mv_cnt x.1 := by
  obtain ⟨t, ht, h⟩ := List.mem_flatMap.mp h
  obtain ⟨j, hj, rfl⟩ := List.mem_map.mp h
  exact ⟨List.mem_range.mp ht, List.mem_range.mp hj⟩
-- what the machine's cells hold
def mv_tr (ad : Nat → Nat → Nat) (v : mv_V) : Value := match v with
  | .inl x => .int (Int32.ofInt x)
  | .inr (t, j) => .ref (ad t j)
def mv_fv (ad : Nat → Nat → Nat) (M : mv_M) (t j k : Nat) (o : Option (Nat × Nat × Nat)) : Value := match o with
  | none => .int (Int32.ofInt (M.1 t j k))
  | some (t2, a, b) => .ref (ad t2 (a * j + b))
def mv_fs (ad : Nat → Nat → Nat) (M : mv_M) (t j : Nat) : List Value := (mv_fd t).mapIdx (fun k o => mv_fv ad M t j k o)
def mv_cell (ad : Nat → Nat → Nat) (cA : Nat → ClassId) (M : mv_M) (t j : Nat) : va_E :=
  if t < 12 then .inr (t, mv_fs ad M t j)
  else if mv_rt t = true then .inl (cA (mv_ac t), mv_len t, .inr (.inr (.inr (.inr (fun i => some (ad (mv_et t) (mv_ei M t j i)))))))
  else .inl (cA (mv_ac t), mv_len t, .inl (fun i => Int32.ofInt (M.1 t j i)))
def mv_ws (ad : Nat → Nat → Nat) (cA : Nat → ClassId) (M : mv_M) : va_W := mv_IX.map (fun x => (ad x.1 x.2, mv_cell ad cA M x.1 x.2))
def mv_tys (cA : Nat → ClassId) : List (ClassId × FieldType) := (List.range 7).map (fun i => (cA i, mv_at i))
theorem mv_tys_at (cA : Nat → ClassId) {i : Nat} (h : i < 7) : (mv_tys cA)[i]? = some (cA i, mv_at i) := by
  simp [mv_tys, h]
/-- whose cells these are -/
def mv_A (ad : Nat → Nat → Nat) : Nat → Prop := fun q => ∃ t j, (t, j) ∈ mv_IX ∧ q = ad t j
def mv_up (f : Nat → Nat → Nat → Int) (t j k : Nat) (v : Int) : Nat → Nat → Nat → Int := fun a b c => if a = t ∧ b = j ∧ c = k then v else f a b c
def mv_us (f : Nat → Nat) (i v : Nat) : Nat → Nat := fun k => if k = i then v else f k
theorem mv_ws_get {A : Nat → Prop} {ad : Nat → Nat → Nat} {cA : Nat → ClassId} {M : mv_M} {t j : Nat} (hD : va_D A (mv_ws ad cA M)) (h : (t, j) ∈ mv_IX) :
    ∃ q, (mv_ws ad cA M)[q]? = some (ad t j, mv_cell ad cA M t j) ∧ ∀ M' : mv_M, (∀ t' j', ¬ (t' = t ∧ j' = j) → mv_cell ad cA M' t' j' = mv_cell ad cA M t' j') → (mv_ws ad cA M).set q (ad t j, mv_cell ad cA M' t j) = mv_ws ad cA M' := by
  obtain ⟨q, hq⟩ := List.getElem?_of_mem h
  have h0 : (mv_ws ad cA M)[q]? = some (ad t j, mv_cell ad cA M t j) := by simp only [mv_ws, List.getElem?_map, hq]; rfl
  refine ⟨q, h0, fun M' hM => ?_⟩
  have hl := (List.getElem?_eq_some_iff.mp h0).1
  apply List.ext_getElem?
  intro i
  by_cases hi : i = q
  · subst hi
    rw [List.getElem?_set_self hl]
    simp only [mv_ws, List.getElem?_map, hq]; rfl
  · rw [List.getElem?_set_ne (Ne.symm hi)]
    simp only [mv_ws, List.getElem?_map]
    cases hx : mv_IX[i]? with
    | none => rfl
    | some x =>
      obtain ⟨t', j'⟩ := x
      have hne : ¬ (t' = t ∧ j' = j) := by
        rintro ⟨rfl, rfl⟩
        exact hi (hD.1 i q (ad t' j', mv_cell ad cA M t' j') (ad t' j', mv_cell ad cA M t' j') (by simp only [mv_ws, List.getElem?_map, hx]; rfl) h0 rfl)
      simp only [Option.map_some]
      rw [hM t' j' hne]
theorem mv_fs_at {ad : Nat → Nat → Nat} {M : mv_M} {C j k : Nat} {o : Option (Nat × Nat × Nat)} (h : (mv_fd C)[k]? = some o) : (mv_fs ad M C j)[k]? = some (mv_fv ad M C j k o) := by
  simp only [mv_fs, List.getElem?_mapIdx, h]; rfl
theorem mv_fs_len {ad : Nat → Nat → Nat} {M : mv_M} {C j : Nat} : (mv_fs ad M C j).length = (mv_fd C).length := by
  simp [mv_fs]
theorem mv_cell_obj {ad : Nat → Nat → Nat} {cA : Nat → ClassId} {M : mv_M} {C j : Nat} (h : C < 12) : mv_cell ad cA M C j = .inr (C, mv_fs ad M C j) := if_pos h
theorem mv_cell_int {ad : Nat → Nat → Nat} {cA : Nat → ClassId} {M : mv_M} {t j : Nat} (h : ¬ t < 12) (hr : mv_rt t = false) : mv_cell ad cA M t j = .inl (cA (mv_ac t), mv_len t, .inl (fun i => Int32.ofInt (M.1 t j i))) := by
  unfold mv_cell; rw [if_neg h, if_neg (by rw [hr]; decide)]
theorem mv_cell_ref {ad : Nat → Nat → Nat} {cA : Nat → ClassId} {M : mv_M} {t j : Nat} (h : ¬ t < 12) (hr : mv_rt t = true) : mv_cell ad cA M t j = .inl (cA (mv_ac t), mv_len t, .inr (.inr (.inr (.inr (fun i => some (ad (mv_et t) (mv_ei M t j i))))))) := by
  unfold mv_cell; rw [if_neg h, if_pos hr]
/-- a number of an object is written -/
theorem mv_fs_put {ad : Nat → Nat → Nat} {M : mv_M} {C j k : Nat} {x : Int} (h : (mv_fd C)[k]? = some none) : (mv_fs ad M C j).set k (.int (Int32.ofInt x)) = mv_fs ad (mv_up M.1 C j k x, M.2) C j := by
  apply List.ext_getElem?
  intro i
  have hk : k < (mv_fs ad M C j).length := by rw [mv_fs_len]; exact (List.getElem?_eq_some_iff.mp h).1
  by_cases hi : i = k
  · subst hi
    rw [List.getElem?_set_self hk, mv_fs_at h]
    simp [mv_fv, mv_up]
  · rw [List.getElem?_set_ne (Ne.symm hi)]
    simp only [mv_fs, List.getElem?_mapIdx]
    cases (mv_fd C)[i]? with
    | none => rfl
    | some o => cases o <;> simp [mv_fv, mv_up, hi]
theorem mv_cell_up {ad : Nat → Nat → Nat} {cA : Nat → ClassId} {M : mv_M} {t j k : Nat} {x : Int} {t' j' : Nat} (h : ¬ (t' = t ∧ j' = j)) : mv_cell ad cA (mv_up M.1 t j k x, M.2) t' j' = mv_cell ad cA M t' j' := by
  have e : ∀ i, mv_up M.1 t j k x t' j' i = M.1 t' j' i := fun i => if_neg (fun q => h ⟨q.1, q.2.1⟩)
  have e2 : mv_fs ad (mv_up M.1 t j k x, M.2) t' j' = mv_fs ad M t' j' := by
    unfold mv_fs
    congr 1
    funext i o
    cases o with
    | none => simp [mv_fv, e]
    | some o => rfl
  unfold mv_cell
  rw [e2]
  by_cases h1 : t' < 12
  · rw [if_pos h1, if_pos h1]
  · rw [if_neg h1, if_neg h1]
    by_cases h2 : mv_rt t' = true
    · rw [if_pos h2, if_pos h2]; rfl
    · rw [if_neg h2, if_neg h2]
      simp only [e]
end
section
/-! The frame of the small machine, what soundness means, and the rows of the plain instructions. -/
def mv_pr (ad : Nat → Nat → Nat) (L : mv_L) : List (Nat × Value) := L.zipIdx.filterMap (fun x => x.1.map (fun v => (x.2, mv_tr ad v)))
theorem mv_pr_mem {ad : Nat → Nat → Nat} {L : mv_L} {i : Nat} {x : Value} : (i, x) ∈ mv_pr ad L ↔ ∃ v, L[i]? = some (some v) ∧ x = mv_tr ad v := by
  simp only [mv_pr, List.mem_filterMap]
  constructor
  · rintro ⟨⟨o, n⟩, h1, h2⟩
    have h1 := List.mem_zipIdx_iff_getElem?.mp h1
    cases o with
    | none => simp at h2
    | some v =>
      simp only [Option.map_some, Option.some.injEq, Prod.mk.injEq] at h2
      obtain ⟨rfl, rfl⟩ := h2
      exact ⟨v, h1, rfl⟩
  · rintro ⟨v, h1, rfl⟩
    exact ⟨(some v, i), List.mem_zipIdx_iff_getElem?.mpr h1, rfl⟩
theorem mv_tr_cat (ad : Nat → Nat → Nat) (v : mv_V) : (mv_tr ad v).category = 1 := by
  rcases v with x | ⟨t, j⟩ <;> rfl
def mv_F (ad : Nat → Nat → Nat) (n : Nat) (ls : Array Slot) (L : mv_L) : Prop := lv_has ls n (mv_pr ad L) ∧ L.length ≤ n
theorem mv_F.at {ad : Nat → Nat → Nat} {n : Nat} {ls : Array Slot} {L : mv_L} (h : mv_F ad n ls L) {i : Nat} {v : mv_V} (hv : L[i]? = some (some v)) : ls[i]? = some (.val (mv_tr ad v)) :=
  h.1.2.2 (i, mv_tr ad v) (mv_pr_mem.mpr ⟨v, hv, rfl⟩)
theorem mv_F.put {ad : Nat → Nat → Nat} {n : Nat} {ls ls' : Array Slot} {L : mv_L} (h : mv_F ad n ls L) {i : Nat} {v : mv_V}
    (h' : lv_has ls' n ((i, mv_tr ad v) :: (mv_pr ad L).filter (fun q => !(q.1 == i) && !(q.1 + 1 == i && q.2.category == 2)))) : mv_F ad n ls' (L.set i (some v)) := by
  refine ⟨⟨h'.1, h'.2.1, fun q hq => h'.2.2 q ?_⟩, by rw [List.length_set]; exact h.2⟩
  obtain ⟨j, x⟩ := q
  obtain ⟨w, hw, rfl⟩ := mv_pr_mem.mp hq
  rw [List.getElem?_set] at hw
  by_cases hj : i = j
  · subst hj
    simp at hw
    rw [hw.2]
    exact List.mem_cons_self
  · rw [if_neg hj] at hw
    refine List.mem_cons_of_mem _ (List.mem_filter.mpr ⟨mv_pr_mem.mpr ⟨w, hw, rfl⟩, ?_⟩)
    have hc := mv_tr_cat ad w
    simp only [hc]
    have : (j == i) = false := by simp; exact fun q => hj q.symm
    simp [this]
def mv_vok (v : mv_V) : Prop := match v with
  | .inl x => -2147483648 ≤ x ∧ x ≤ 2147483647
  | .inr (t, j) => t < 33 ∧ j < mv_cnt t
def mv_Lok (L : mv_L) : Prop := ∀ (i : Nat) (v : mv_V), L[i]? = some (some v) → mv_vok v
def mv_Sok (st : List mv_V) : Prop := ∀ v ∈ st, mv_vok v
def mv_Mok (M : mv_M) : Prop := (∀ t j k, -2147483648 ≤ M.1 t j k ∧ M.1 t j k ≤ 2147483647) ∧ ∀ i, M.2 i < 6
theorem mv_Lok.set {L : mv_L} (h : mv_Lok L) {i : Nat} {v : mv_V} (hv : mv_vok v) : mv_Lok (L.set i (some v)) := by
  intro j w hw
  rw [List.getElem?_set] at hw
  by_cases hj : i = j
  · subst hj
    simp at hw
    rw [← hw.2]; exact hv
  · rw [if_neg hj] at hw
    exact h j w hw
theorem mv_Sok.cons {v : mv_V} {st : List mv_V} (hv : mv_vok v) (h : mv_Sok st) : mv_Sok (v :: st) := fun w hw => (List.mem_cons.mp hw).elim (fun e => by rw [e]; exact hv) (h w)
theorem mv_Sok.tl {v : mv_V} {st : List mv_V} (h : mv_Sok (v :: st)) : mv_Sok st := fun w hw => h w (List.mem_cons_of_mem _ hw)
theorem mv_Sok.hd {v : mv_V} {st : List mv_V} (h : mv_Sok (v :: st)) : mv_vok v := h v List.mem_cons_self
-- whole numbers
theorem mv_toInt {x : Int} (h : -2147483648 ≤ x ∧ x ≤ 2147483647) : (Int32.ofInt x).toInt = x := Int32.toInt_ofInt_of_le (by omega) (by omega)
theorem mv_add (x y : Int) : Int32.ofInt x + Int32.ofInt y = Int32.ofInt (x + y) := (Int32.ofInt_add x y).symm
theorem mv_sub (x y : Int) : Int32.ofInt x - Int32.ofInt y = Int32.ofInt (x - y) := (Int32.ofInt_sub x y).symm
theorem mv_mul (x y : Int) : Int32.ofInt x * Int32.ofInt y = Int32.ofInt (x * y) := (Int32.ofInt_mul x y).symm
theorem mv_neg (x : Int) : -Int32.ofInt x = Int32.ofInt (-x) := (Int32.ofInt_neg x).symm
theorem mv_ieq {x y : Int} (hx : -2147483648 ≤ x ∧ x ≤ 2147483647) (hy : -2147483648 ≤ y ∧ y ≤ 2147483647) : Int32.ofInt x = Int32.ofInt y ↔ x = y :=
  ⟨fun h => by rw [← mv_toInt hx, ← mv_toInt hy, h], fun h => by rw [h]⟩
theorem mv_ile {x y : Int} (hx : -2147483648 ≤ x ∧ x ≤ 2147483647) (hy : -2147483648 ≤ y ∧ y ≤ 2147483647) : Int32.ofInt x ≤ Int32.ofInt y ↔ x ≤ y := by
  rw [Int32.le_iff_toInt_le, mv_toInt hx, mv_toInt hy]
theorem mv_ilt {x y : Int} (hx : -2147483648 ≤ x ∧ x ≤ 2147483647) (hy : -2147483648 ≤ y ∧ y ≤ 2147483647) : Int32.ofInt x < Int32.ofInt y ↔ x < y := by
  rw [Int32.lt_iff_toInt_lt, mv_toInt hx, mv_toInt hy]
theorem mv_i0 : (0 : Int32) = Int32.ofInt 0 := rfl
theorem mv_r0 : -2147483648 ≤ (0 : Int) ∧ (0 : Int) ≤ 2147483647 := ⟨by decide, by decide⟩
theorem mv_div {x y : Int} (hx : 0 ≤ x ∧ x ≤ 2147483647) (hy : 0 < y ∧ y ≤ 2147483647) : Int32.ofInt x / Int32.ofInt y = Int32.ofInt (x / y) := by
  have hx' : -2147483648 ≤ x ∧ x ≤ 2147483647 := ⟨by omega, hx.2⟩
  have hy' : -2147483648 ≤ y ∧ y ≤ 2147483647 := ⟨by omega, hy.2⟩
  have hq : 0 ≤ x / y ∧ x / y ≤ x := ⟨Int.ediv_nonneg hx.1 (by omega), Int.ediv_le_self y hx.1⟩
  have hne : Int32.ofInt y ≠ -1 := by
    intro h
    have := congrArg Int32.toInt h
    rw [mv_toInt hy', show ((-1 : Int32)).toInt = -1 by decide] at this
    omega
  rw [← Int32.toInt_inj, Int32.toInt_div_of_ne_right _ _ hne, mv_toInt hx', mv_toInt hy', mv_toInt ⟨by omega, by omega⟩]
  exact Int.tdiv_eq_ediv_of_nonneg hx.1
theorem mv_rem {x y : Int} (hx : 0 ≤ x ∧ x ≤ 2147483647) (hy : 0 < y ∧ y ≤ 2147483647) : Int32.ofInt x - Int32.ofInt x / Int32.ofInt y * Int32.ofInt y = Int32.ofInt (x % y) := by
  rw [mv_div hx hy, mv_mul, mv_sub]
  congr 1
  have := Int.emod_def x y
  have h2 : x / y * y = y * (x / y) := Int.mul_comm _ _
  omega
-- the places of locals and of the stack
def mv_get : mv_L → Nat → (mv_V → Prop) → Prop
  | [], _, _ => False
  | none :: _, 0, _ => False
  | some v :: _, 0, k => k v
  | _ :: L, n + 1, k => mv_get L n k
def mv_set : mv_L → Nat → mv_V → (mv_L → Prop) → Prop
  | [], _, _, _ => False
  | _ :: L, 0, v, k => k (some v :: L)
  | x :: L, n + 1, v, k => mv_set L n v (fun L' => k (x :: L'))
theorem mv_get_at : ∀ {L : mv_L} {i : Nat} {k : mv_V → Prop}, mv_get L i k → ∃ v, L[i]? = some (some v) ∧ k v
  | [], _, _, h => h.elim
  | none :: _, 0, _, h => h.elim
  | some v :: _, 0, _, h => ⟨v, rfl, h⟩
  | none :: L, n + 1, k, h => mv_get_at (L := L) h
  | some _ :: L, n + 1, k, h => mv_get_at (L := L) h
theorem mv_set_at : ∀ {L : mv_L} {i : Nat} {v : mv_V} {k : mv_L → Prop}, mv_set L i v k → i < L.length ∧ k (L.set i (some v))
  | [], _, _, _, h => h.elim
  | _ :: L, 0, _, _, h => ⟨by simp, h⟩
  | x :: L, n + 1, v, k, h => by
    have := mv_set_at (L := L) (k := fun L' => k (x :: L')) h
    exact ⟨by simp; exact this.1, this.2⟩
def mv_tb : List Cond := lw_tbl.filter goodWord
def mv_nest : List (String × Nat × MethodName) := [("QuoteGrid$Content", 27, ⟨"QuoteGrid$Article", "<init>", "()V"⟩), ("QuoteGrid$Content", 28, ⟨"QuoteGrid$Quote", "<init>", "()V"⟩), ("QuoteGrid", 25, ⟨"QuoteGrid$Reader", "<init>", "()V"⟩), ("QuoteGrid$Reader", 11, ⟨"QuoteGrid$Text", "<init>", "()V"⟩), ("QuoteGrid", 37, ⟨"QuoteGrid$Trial", "<init>", "()V"⟩), ("QuoteGrid$Layout", 21, ⟨"QuoteGrid$Flow", "<init>", "()V"⟩), ("QuoteGrid$Content", 49, ⟨"QuoteGrid", "isWithin", "(III)Z"⟩), ("QuoteGrid$Layout", 81, ⟨"QuoteGrid", "moduleAt", "(III)I"⟩), ("QuoteGrid$Flow", 45, ⟨"QuoteGrid", "pageOf", "(I)I"⟩), ("QuoteGrid$Quote", 37, ⟨"QuoteGrid", "pageOf", "(I)I"⟩), ("QuoteGrid$Quote", 41, ⟨"QuoteGrid", "columnOf", "(I)I"⟩), ("QuoteGrid$Quote", 44, ⟨"QuoteGrid", "rowOf", "(I)I"⟩), ("QuoteGrid$Quote", 56, ⟨"QuoteGrid", "differenceOfRuns", "(IIII)I"⟩), ("QuoteGrid$Flow", 52, ⟨"QuoteGrid", "isWithin", "(III)Z"⟩), ("QuoteGrid$Layout", 109, ⟨"QuoteGrid", "pageOf", "(I)I"⟩), ("QuoteGrid$Trial", 113, ⟨"QuoteGrid", "isWithin", "(III)Z"⟩), ("QuoteGrid$Reader", 117, ⟨"QuoteGrid", "isWithin", "(III)Z"⟩)]
def mv_N (U : State) : Prop := ∀ q ∈ mv_nest, va_Nw (.methodLinkNest q.1 q.2.1 q.2.2 "QuoteGrid") U
theorem mv_N.warm {s U : State} (hW : s.WarmedH U.vm) (h : mv_N s) : mv_N U := fun q hq => va_Nw.warmM hW (h q hq)
theorem mv_N.same {s U : State} (hv : s.vm = U.vm) (h : mv_N s) : mv_N U := fun q hq => va_Nw.same rfl hv (h q hq)
def mv_rm (lvl : Nat) : Room := { frames := lvl + 1, cells := 0, slots := 0, locals := 40 + 30 * lvl }
def mv_Cx (cc : ByteArray) (maxL : Nat) (ret : Option FieldType) (own : String) (p : Program) (s : State) (m : MethodId) (args : Array Value) (meth : Method) (c : Code) : Prop :=
  p.tables.exec = Jvm.exec ∧ c.code = cc ∧ c.maxLocals = maxL ∧ s.vm.findClass own = some m.cls ∧ (∀ w ∈ mv_tb, w.before args s = true) ∧ meth.sig.returnType = ret ∧ meth.locks = false
def mv_Qc (ad : Nat → Nat → Nat) (D : va_G) (cA : Nat → ClassId) (Q : mv_R) : Array Value → State → Outcome → State → Prop := fun _ st oc t =>
  (∃ (v : Option mv_V) (M' : mv_M), oc = .returned (v.map (mv_tr ad)) ∧ Q v M' ∧ (∀ w, v = some w → mv_vok w) ∧ mv_Mok M' ∧ va_P D vwCl (mv_ws ad cA M') t.heap) ∧ va_F (mv_A ad) st t
def mv_St (ad : Nat → Nat → Nat) (D : va_G) (cA : Nat → ClassId) (n : Nat) (H0 : Heap) (M : mv_M) (L : mv_L) (st : List mv_V) (H : Heap) (locs : List Loc) (ls : Array Slot) : Prop :=
  va_P D vwCl (mv_ws ad cA M) H ∧ va_D (mv_A ad) (mv_ws ad cA M) ∧ va_S (mv_A ad) H0 H locs ∧ mv_F ad n ls L ∧ mv_Lok L ∧ mv_Sok st ∧ mv_Mok M
theorem mv_D_any {A : Nat → Prop} {ad : Nat → Nat → Nat} {cA : Nat → ClassId} {M M' : mv_M} (h : va_D A (mv_ws ad cA M)) : va_D A (mv_ws ad cA M') := by
  have key : ∀ (i : Nat) (q : Nat × va_E), (mv_ws ad cA M')[i]? = some q → ∃ q', (mv_ws ad cA M)[i]? = some q' ∧ q'.1 = q.1 := by
    intro i q hq
    simp only [mv_ws, List.getElem?_map] at hq ⊢
    cases hx : mv_IX[i]? with
    | none => rw [hx] at hq; cases hq
    | some x => rw [hx] at hq; cases hq; exact ⟨_, rfl, rfl⟩
  refine ⟨fun i j p q hi hj hpq => ?_, fun k q hk => ?_⟩
  · obtain ⟨p', h1, e1⟩ := key i p hi
    obtain ⟨q', h2, e2⟩ := key j q hj
    exact h.1 i j p' q' h1 h2 (by rw [e1, e2]; exact hpq)
  · obtain ⟨q', h1, e1⟩ := key k q hk
    rw [← e1]; exact h.2 k q' h1
/-- an operator is sound at a pc of a method -/
def mv_Snd (cc : ByteArray) (maxL : Nat) (ret : Option FieldType) (own : String) (lvl : Nat) (pc : Nat) (op : mv_O) : Prop :=
  ∀ (p : Program) (l : Launch) (e : Env) (s : State) (m : MethodId) (args : Array Value) (below : List Frame) (meth : Method) (c : Code) (ad : Nat → Nat → Nat) (D : va_G) (cA : Nat → ClassId) (K : mv_K) (Q : mv_R) (L : mv_L) (st : List mv_V) (M : mv_M) (H : Heap) (locs : List Loc) (ls : Array Slot),
    mv_Cx cc maxL ret own p s m args meth c → va_K D vwCl (mv_tys cA) s → mv_N s → op K Q L st M → mv_St ad D cA maxL s.heap M L st H locs ls →
    (∀ (pc' : Nat) (L' : mv_L) (st' : List mv_V) (M' : mv_M) (H' : Heap) (locs' : List Loc) (ls' : Array Slot), K pc' L' st' M' → mv_St ad D cA maxL s.heap M' L' st' H' locs' ls' →
      W p l e (mv_rm lvl) s m args below meth c H' locs' 0 0 (MQ below (mv_Qc ad D cA Q) args s 0 0 (mv_A ad)) (F0 m pc' ls' (st'.map (mv_tr ad)))) →
    W p l e (mv_rm lvl) s m args below meth c H locs 0 0 (MQ below (mv_Qc ad D cA Q) args s 0 0 (mv_A ad)) (F0 m pc ls (st.map (mv_tr ad)))
-- the plain operators
def mo_no : mv_O := fun _ _ _ _ _ => False
def mo_const (z : Int) (nx : Nat) : mv_O := fun K _ L st M => K nx L (.inl z :: st) M
def mo_iload (i nx : Nat) : mv_O := fun K _ L st M => mv_get L i (fun v => match v with
  | .inl x => K nx L (.inl x :: st) M
  | .inr _ => False)
def mo_aload (i nx : Nat) : mv_O := fun K _ L st M => mv_get L i (fun v => match v with
  | .inr (t, j) => K nx L (.inr (t, j) :: st) M
  | .inl _ => False)
def mo_istore (i nx : Nat) : mv_O := fun K _ L st M => match st with
  | .inl x :: st' => mv_set L i (.inl x) (fun L' => K nx L' st' M)
  | _ => False
def mo_astore (i nx : Nat) : mv_O := fun K _ L st M => match st with
  | .inr (t, j) :: st' => mv_set L i (.inr (t, j)) (fun L' => K nx L' st' M)
  | _ => False
def mo_iinc (i : Nat) (d : Int) (nx : Nat) : mv_O := fun K _ L st M => mv_get L i (fun v => match v with
  | .inl x => (-2147483648 ≤ x + d ∧ x + d ≤ 2147483647) ∧ mv_set L i (.inl (x + d)) (fun L' => K nx L' st M)
  | .inr _ => False)
def mo_iadd (nx : Nat) : mv_O := fun K _ L st M => match st with
  | .inl y :: .inl x :: st' => (-2147483648 ≤ x + y ∧ x + y ≤ 2147483647) ∧ K nx L (.inl (x + y) :: st') M
  | _ => False
def mo_isub (nx : Nat) : mv_O := fun K _ L st M => match st with
  | .inl y :: .inl x :: st' => (-2147483648 ≤ x - y ∧ x - y ≤ 2147483647) ∧ K nx L (.inl (x - y) :: st') M
  | _ => False
def mo_imul (nx : Nat) : mv_O := fun K _ L st M => match st with
  | .inl y :: .inl x :: st' => (-2147483648 ≤ x * y ∧ x * y ≤ 2147483647) ∧ K nx L (.inl (x * y) :: st') M
  | _ => False
def mo_idiv (nx : Nat) : mv_O := fun K _ L st M => match st with
  | .inl y :: .inl x :: st' => (0 ≤ x ∧ 0 < y) ∧ K nx L (.inl (x / y) :: st') M
  | _ => False
def mo_irem (nx : Nat) : mv_O := fun K _ L st M => match st with
  | .inl y :: .inl x :: st' => (0 ≤ x ∧ 0 < y) ∧ K nx L (.inl (x % y) :: st') M
  | _ => False
def mo_ineg (nx : Nat) : mv_O := fun K _ L st M => match st with
  | .inl x :: st' => (-2147483648 ≤ -x ∧ -x ≤ 2147483647) ∧ K nx L (.inl (-x) :: st') M
  | _ => False
def mo_dup (nx : Nat) : mv_O := fun K _ L st M => match st with
  | v :: st' => K nx L (v :: v :: st') M
  | _ => False
def mo_pop (nx : Nat) : mv_O := fun K _ L st M => match st with
  | _ :: st' => K nx L st' M
  | _ => False
def mo_dup2 (nx : Nat) : mv_O := fun K _ L st M => match st with
  | v :: w :: st' => K nx L (v :: w :: v :: w :: st') M
  | _ => False
def mo_goto (tg : Nat) : mv_O := fun K _ L st M => K tg L st M
def mo_ifeq (tg nx : Nat) : mv_O := fun K _ L st M => match st with
  | .inl x :: st' => (x = 0 → K tg L st' M) ∧ (¬ x = 0 → K nx L st' M)
  | _ => False
def mo_ifne (tg nx : Nat) : mv_O := fun K _ L st M => match st with
  | .inl x :: st' => (¬ x = 0 → K tg L st' M) ∧ (x = 0 → K nx L st' M)
  | _ => False
def mo_iflt (tg nx : Nat) : mv_O := fun K _ L st M => match st with
  | .inl x :: st' => (x < 0 → K tg L st' M) ∧ (0 ≤ x → K nx L st' M)
  | _ => False
def mo_ifge (tg nx : Nat) : mv_O := fun K _ L st M => match st with
  | .inl x :: st' => (0 ≤ x → K tg L st' M) ∧ (x < 0 → K nx L st' M)
  | _ => False
def mo_ifle (tg nx : Nat) : mv_O := fun K _ L st M => match st with
  | .inl x :: st' => (x ≤ 0 → K tg L st' M) ∧ (0 < x → K nx L st' M)
  | _ => False
def mo_ceq (tg nx : Nat) : mv_O := fun K _ L st M => match st with
  | .inl y :: .inl x :: st' => (x = y → K tg L st' M) ∧ (¬ x = y → K nx L st' M)
  | _ => False
def mo_cne (tg nx : Nat) : mv_O := fun K _ L st M => match st with
  | .inl y :: .inl x :: st' => (¬ x = y → K tg L st' M) ∧ (x = y → K nx L st' M)
  | _ => False
def mo_clt (tg nx : Nat) : mv_O := fun K _ L st M => match st with
  | .inl y :: .inl x :: st' => (x < y → K tg L st' M) ∧ (y ≤ x → K nx L st' M)
  | _ => False
def mo_cge (tg nx : Nat) : mv_O := fun K _ L st M => match st with
  | .inl y :: .inl x :: st' => (y ≤ x → K tg L st' M) ∧ (x < y → K nx L st' M)
  | _ => False
def mo_cgt (tg nx : Nat) : mv_O := fun K _ L st M => match st with
  | .inl y :: .inl x :: st' => (y < x → K tg L st' M) ∧ (x ≤ y → K nx L st' M)
  | _ => False
def mo_cle (tg nx : Nat) : mv_O := fun K _ L st M => match st with
  | .inl y :: .inl x :: st' => (x ≤ y → K tg L st' M) ∧ (y < x → K nx L st' M)
  | _ => False
def mv_tsw : Int → List Nat → Int → (Nat → Prop) → Prop
  | _, [], _, _ => True
  | lo, t :: ts, x, k => (x = lo → k t) ∧ mv_tsw (lo + 1) ts x k
def mo_tsw (lo : Int) (tgs : List Nat) (df : Nat) : mv_O := fun K _ L st M => match st with
  | .inl x :: st' => ((x < lo ∨ lo + (tgs.length : Int) ≤ x) → K df L st' M) ∧ mv_tsw lo tgs x (fun t => K t L st' M)
  | _ => False
def mo_iret : mv_O := fun _ Q _ st M => match st with
  | [.inl x] => Q (some (.inl x)) M
  | _ => False
def mo_zret : mv_O := fun _ Q _ st M => match st with
  | [.inl x] => (x = 0 ∨ x = 1) ∧ Q (some (.inl x)) M
  | _ => False
def mo_aret : mv_O := fun _ Q _ st M => match st with
  | [.inr (t, j)] => Q (some (.inr (t, j))) M
  | _ => False
def mo_vret : mv_O := fun _ Q _ st M => match st with
  | [] => Q none M
  | _ => False
section MVS
variable {cc : ByteArray} {maxL : Nat} {ret : Option FieldType} {own : String} {lvl pc : Nat}
theorem ms_no : mv_Snd cc maxL ret own lvl pc mo_no := fun _ _ _ _ _ _ _ _ _ _ _ _ _ _ _ _ _ _ _ _ _ _ _ h => h.elim
theorem ms_iconst {n : Int} (hd : decode cc pc = .ok (.iconst n, 1)) (hn : -2147483648 ≤ n ∧ n ≤ 2147483647) : mv_Snd cc maxL ret own lvl pc (mo_const n (pc + 1)) := by
  intro p l e s m args below meth c ad D cA K Q L st M H locs ls C hK hN h S k
  exact lv_iconst C.1 C.2.1 hd rfl (k _ _ _ _ _ _ _ h ⟨S.1, S.2.1, S.2.2.1, S.2.2.2.1, S.2.2.2.2.1, S.2.2.2.2.2.1.cons hn, S.2.2.2.2.2.2⟩)
theorem ms_bipush {n : Int} (hd : decode cc pc = .ok (.bipush n, 2)) (hv : (Int8.ofInt n).toInt32 = Int32.ofInt n) (hn : -2147483648 ≤ n ∧ n ≤ 2147483647) : mv_Snd cc maxL ret own lvl pc (mo_const n (pc + 2)) := by
  intro p l e s m args below meth c ad D cA K Q L st M H locs ls C hK hN h S k
  exact lv_bipush C.1 C.2.1 hd hv (k _ _ _ _ _ _ _ h ⟨S.1, S.2.1, S.2.2.1, S.2.2.2.1, S.2.2.2.2.1, S.2.2.2.2.2.1.cons hn, S.2.2.2.2.2.2⟩)
theorem ms_sipush {n : Int} (hd : decode cc pc = .ok (.sipush n, 3)) (hv : (Int16.ofInt n).toInt32 = Int32.ofInt n) (hn : -2147483648 ≤ n ∧ n ≤ 2147483647) : mv_Snd cc maxL ret own lvl pc (mo_const n (pc + 3)) := by
  intro p l e s m args below meth c ad D cA K Q L st M H locs ls C hK hN h S k
  exact lv_sipush C.1 C.2.1 hd hv (k _ _ _ _ _ _ _ h ⟨S.1, S.2.1, S.2.2.1, S.2.2.2.1, S.2.2.2.2.1, S.2.2.2.2.2.1.cons hn, S.2.2.2.2.2.2⟩)
theorem ms_ldc {idx : Nat} {n : Int} (hd : decode cc pc = .ok (.ldc idx, 2)) (hw : Cond.constant own idx (Int32.ofInt n) ∈ mv_tb) (hn : -2147483648 ≤ n ∧ n ≤ 2147483647) : mv_Snd cc maxL ret own lvl pc (mo_const n (pc + 2)) := by
  intro p l e s m args below meth c ad D cA K Q L st M H locs ls C hK hN h S k
  exact lv_ldc C.1 C.2.1 C.2.2.2.1 (C.2.2.2.2.1 _ hw) hd (k _ _ _ _ _ _ _ h ⟨S.1, S.2.1, S.2.2.1, S.2.2.2.1, S.2.2.2.2.1, S.2.2.2.2.2.1.cons hn, S.2.2.2.2.2.2⟩)
theorem ms_iload_n {q : Fin 4} {i : Nat} (hd : decode cc pc = .ok (.iload_n q, 1)) (hi : (q : Nat) = i) : mv_Snd cc maxL ret own lvl pc (mo_iload i (pc + 1)) := by
  intro p l e s m args below meth c ad D cA K Q L st M H locs ls C hK hN h S k
  obtain ⟨v, hv, h⟩ := mv_get_at h
  rcases v with x | ⟨t, j⟩
  · exact lv_iload_n C.1 C.2.1 hd hi (S.2.2.2.1.at hv) (k _ _ _ _ _ _ _ h ⟨S.1, S.2.1, S.2.2.1, S.2.2.2.1, S.2.2.2.2.1, S.2.2.2.2.2.1.cons (S.2.2.2.2.1 _ _ hv), S.2.2.2.2.2.2⟩)
  · exact h.elim
theorem ms_iload {i : Nat} (hd : decode cc pc = .ok (.iload i, 2)) : mv_Snd cc maxL ret own lvl pc (mo_iload i (pc + 2)) := by
  intro p l e s m args below meth c ad D cA K Q L st M H locs ls C hK hN h S k
  obtain ⟨v, hv, h⟩ := mv_get_at h
  rcases v with x | ⟨t, j⟩
  · exact lv_iload C.1 C.2.1 hd (S.2.2.2.1.at hv) (k _ _ _ _ _ _ _ h ⟨S.1, S.2.1, S.2.2.1, S.2.2.2.1, S.2.2.2.2.1, S.2.2.2.2.2.1.cons (S.2.2.2.2.1 _ _ hv), S.2.2.2.2.2.2⟩)
  · exact h.elim
theorem ms_aload_n {q : Fin 4} {i : Nat} (hd : decode cc pc = .ok (.aload_n q, 1)) (hi : (q : Nat) = i) : mv_Snd cc maxL ret own lvl pc (mo_aload i (pc + 1)) := by
  intro p l e s m args below meth c ad D cA K Q L st M H locs ls C hK hN h S k
  obtain ⟨v, hv, h⟩ := mv_get_at h
  rcases v with x | ⟨t, j⟩
  · exact h.elim
  · exact lv_aload_n C.1 C.2.1 hd hi (S.2.2.2.1.at hv) (k _ _ _ _ _ _ _ h ⟨S.1, S.2.1, S.2.2.1, S.2.2.2.1, S.2.2.2.2.1, S.2.2.2.2.2.1.cons (S.2.2.2.2.1 _ _ hv), S.2.2.2.2.2.2⟩)
theorem ms_aload {i : Nat} (hd : decode cc pc = .ok (.aload i, 2)) : mv_Snd cc maxL ret own lvl pc (mo_aload i (pc + 2)) := by
  intro p l e s m args below meth c ad D cA K Q L st M H locs ls C hK hN h S k
  obtain ⟨v, hv, h⟩ := mv_get_at h
  rcases v with x | ⟨t, j⟩
  · exact h.elim
  · exact lv_aload C.1 C.2.1 hd (S.2.2.2.1.at hv) (k _ _ _ _ _ _ _ h ⟨S.1, S.2.1, S.2.2.1, S.2.2.2.1, S.2.2.2.2.1, S.2.2.2.2.2.1.cons (S.2.2.2.2.1 _ _ hv), S.2.2.2.2.2.2⟩)
theorem ms_istore_n {q : Fin 4} {i : Nat} (hd : decode cc pc = .ok (.istore_n q, 1)) (hi : (q : Nat) = i) : mv_Snd cc maxL ret own lvl pc (mo_istore i (pc + 1)) := by
  intro p l e s m args below meth c ad D cA K Q L st M H locs ls C hK hN h S k
  match st, h, S with
  | .inl x :: st', h, S =>
    obtain ⟨hl, h⟩ := mv_set_at h
    refine lv_istore_n C.1 C.2.1 hd hi S.2.2.2.1.1 (Nat.lt_of_lt_of_le hl S.2.2.2.1.2) rfl (fun ls' hl' => ?_)
    exact k _ _ _ _ _ _ _ h ⟨S.1, S.2.1, S.2.2.1, S.2.2.2.1.put (v := .inl x) hl', S.2.2.2.2.1.set S.2.2.2.2.2.1.hd, S.2.2.2.2.2.1.tl, S.2.2.2.2.2.2⟩
theorem ms_istore {i : Nat} (hd : decode cc pc = .ok (.istore i, 2)) : mv_Snd cc maxL ret own lvl pc (mo_istore i (pc + 2)) := by
  intro p l e s m args below meth c ad D cA K Q L st M H locs ls C hK hN h S k
  match st, h, S with
  | .inl x :: st', h, S =>
    obtain ⟨hl, h⟩ := mv_set_at h
    refine lv_istore C.1 C.2.1 hd S.2.2.2.1.1 (Nat.lt_of_lt_of_le hl S.2.2.2.1.2) rfl (fun ls' hl' => ?_)
    exact k _ _ _ _ _ _ _ h ⟨S.1, S.2.1, S.2.2.1, S.2.2.2.1.put (v := .inl x) hl', S.2.2.2.2.1.set S.2.2.2.2.2.1.hd, S.2.2.2.2.2.1.tl, S.2.2.2.2.2.2⟩
theorem ms_astore_n {q : Fin 4} {i : Nat} (hd : decode cc pc = .ok (.astore_n q, 1)) (hi : (q : Nat) = i) : mv_Snd cc maxL ret own lvl pc (mo_astore i (pc + 1)) := by
  intro p l e s m args below meth c ad D cA K Q L st M H locs ls C hK hN h S k
  match st, h, S with
  | .inr (t, j) :: st', h, S =>
    obtain ⟨hl, h⟩ := mv_set_at h
    refine lv_astore_n C.1 C.2.1 hd hi S.2.2.2.1.1 (Nat.lt_of_lt_of_le hl S.2.2.2.1.2) rfl (fun ls' hl' => ?_)
    exact k _ _ _ _ _ _ _ h ⟨S.1, S.2.1, S.2.2.1, S.2.2.2.1.put (v := .inr (t, j)) hl', S.2.2.2.2.1.set S.2.2.2.2.2.1.hd, S.2.2.2.2.2.1.tl, S.2.2.2.2.2.2⟩
theorem ms_astore {i : Nat} (hd : decode cc pc = .ok (.astore i, 2)) : mv_Snd cc maxL ret own lvl pc (mo_astore i (pc + 2)) := by
  intro p l e s m args below meth c ad D cA K Q L st M H locs ls C hK hN h S k
  match st, h, S with
  | .inr (t, j) :: st', h, S =>
    obtain ⟨hl, h⟩ := mv_set_at h
    refine lv_astore C.1 C.2.1 hd S.2.2.2.1.1 (Nat.lt_of_lt_of_le hl S.2.2.2.1.2) rfl (fun ls' hl' => ?_)
    exact k _ _ _ _ _ _ _ h ⟨S.1, S.2.1, S.2.2.1, S.2.2.2.1.put (v := .inr (t, j)) hl', S.2.2.2.2.1.set S.2.2.2.2.2.1.hd, S.2.2.2.2.2.1.tl, S.2.2.2.2.2.2⟩
theorem ms_iinc {i : Nat} {n : Int} (hd : decode cc pc = .ok (.iinc i n, 3)) : mv_Snd cc maxL ret own lvl pc (mo_iinc i n (pc + 3)) := by
  intro p l e s m args below meth c ad D cA K Q L st M H locs ls C hK hN h S k
  obtain ⟨v, hv, h⟩ := mv_get_at h
  rcases v with x | ⟨t, j⟩
  · obtain ⟨hr, h⟩ := h
    obtain ⟨hl, h⟩ := mv_set_at h
    obtain ⟨q, hq⟩ := List.getElem?_of_mem (mv_pr_mem.mpr ⟨_, hv, rfl⟩ : (i, mv_tr ad (.inl x)) ∈ mv_pr ad L)
    refine lv_iinc (x := Int32.ofInt x) C.1 C.2.1 hd S.2.2.2.1.1 hq (mv_add x n) (Nat.lt_of_lt_of_le hl S.2.2.2.1.2) rfl (fun ls' hl' => ?_)
    exact k _ _ _ _ _ _ _ h ⟨S.1, S.2.1, S.2.2.1, S.2.2.2.1.put (v := .inl (x + n)) hl', S.2.2.2.2.1.set hr, S.2.2.2.2.2.1, S.2.2.2.2.2.2⟩
  · exact h.elim
theorem ms_iadd (hd : decode cc pc = .ok (.iadd, 1)) : mv_Snd cc maxL ret own lvl pc (mo_iadd (pc + 1)) := by
  intro p l e s m args below meth c ad D cA K Q L st M H locs ls C hK hN h S k
  match st, h, S with
  | .inl y :: .inl x :: st', h, S =>
    refine lv_iadd C.1 C.2.1 hd ?_
    rw [mv_add]
    exact k _ _ _ _ _ _ _ h.2 ⟨S.1, S.2.1, S.2.2.1, S.2.2.2.1, S.2.2.2.2.1, S.2.2.2.2.2.1.tl.tl.cons h.1, S.2.2.2.2.2.2⟩
theorem ms_isub (hd : decode cc pc = .ok (.isub, 1)) : mv_Snd cc maxL ret own lvl pc (mo_isub (pc + 1)) := by
  intro p l e s m args below meth c ad D cA K Q L st M H locs ls C hK hN h S k
  match st, h, S with
  | .inl y :: .inl x :: st', h, S =>
    refine lv_isub C.1 C.2.1 hd ?_
    rw [mv_sub]
    exact k _ _ _ _ _ _ _ h.2 ⟨S.1, S.2.1, S.2.2.1, S.2.2.2.1, S.2.2.2.2.1, S.2.2.2.2.2.1.tl.tl.cons h.1, S.2.2.2.2.2.2⟩
theorem ms_imul (hd : decode cc pc = .ok (.imul, 1)) : mv_Snd cc maxL ret own lvl pc (mo_imul (pc + 1)) := by
  intro p l e s m args below meth c ad D cA K Q L st M H locs ls C hK hN h S k
  match st, h, S with
  | .inl y :: .inl x :: st', h, S =>
    refine lv_imul C.1 C.2.1 hd ?_
    rw [mv_mul]
    exact k _ _ _ _ _ _ _ h.2 ⟨S.1, S.2.1, S.2.2.1, S.2.2.2.1, S.2.2.2.2.1, S.2.2.2.2.2.1.tl.tl.cons h.1, S.2.2.2.2.2.2⟩
theorem ms_idiv (hd : decode cc pc = .ok (.idiv, 1)) : mv_Snd cc maxL ret own lvl pc (mo_idiv (pc + 1)) := by
  intro p l e s m args below meth c ad D cA K Q L st M H locs ls C hK hN h S k
  match st, h, S with
  | .inl y :: .inl x :: st', h, S =>
    have hy := S.2.2.2.2.2.1.hd
    have hx := S.2.2.2.2.2.1.tl.hd
    have hq : 0 ≤ x / y ∧ x / y ≤ x := ⟨Int.ediv_nonneg h.1.1 (by have := h.1.2; omega), Int.ediv_le_self y h.1.1⟩
    have hx2 : x ≤ 2147483647 := hx.2
    refine lv_idiv C.1 C.2.1 hd (fun e0 => ?_) ?_
    · have := (mv_ieq hy mv_r0).mp e0
      have := h.1.2
      omega
    · rw [mv_div ⟨h.1.1, hx.2⟩ ⟨h.1.2, hy.2⟩]
      exact k _ _ _ _ _ _ _ h.2 ⟨S.1, S.2.1, S.2.2.1, S.2.2.2.1, S.2.2.2.2.1, S.2.2.2.2.2.1.tl.tl.cons (show _ ∧ _ from ⟨by omega, by omega⟩), S.2.2.2.2.2.2⟩
theorem ms_irem (hd : decode cc pc = .ok (.irem, 1)) : mv_Snd cc maxL ret own lvl pc (mo_irem (pc + 1)) := by
  intro p l e s m args below meth c ad D cA K Q L st M H locs ls C hK hN h S k
  match st, h, S with
  | .inl y :: .inl x :: st', h, S =>
    have hy := S.2.2.2.2.2.1.hd
    have hx := S.2.2.2.2.2.1.tl.hd
    have hy2 : y ≤ 2147483647 := hy.2
    have hq : 0 ≤ x % y ∧ x % y < y := ⟨Int.emod_nonneg _ (by have := h.1.2; omega), Int.emod_lt_of_pos _ h.1.2⟩
    refine lv_irem C.1 C.2.1 hd (fun e0 => ?_) ?_
    · have := (mv_ieq hy mv_r0).mp e0
      have := h.1.2
      omega
    · rw [mv_rem ⟨h.1.1, hx.2⟩ ⟨h.1.2, hy.2⟩]
      exact k _ _ _ _ _ _ _ h.2 ⟨S.1, S.2.1, S.2.2.1, S.2.2.2.1, S.2.2.2.2.1, S.2.2.2.2.2.1.tl.tl.cons (show _ ∧ _ from ⟨by omega, by omega⟩), S.2.2.2.2.2.2⟩
theorem ms_ineg (hd : decode cc pc = .ok (.ineg, 1)) : mv_Snd cc maxL ret own lvl pc (mo_ineg (pc + 1)) := by
  intro p l e s m args below meth c ad D cA K Q L st M H locs ls C hK hN h S k
  match st, h, S with
  | .inl x :: st', h, S =>
    refine lv_ineg C.1 C.2.1 hd ?_
    rw [mv_neg]
    exact k _ _ _ _ _ _ _ h.2 ⟨S.1, S.2.1, S.2.2.1, S.2.2.2.1, S.2.2.2.2.1, S.2.2.2.2.2.1.tl.cons h.1, S.2.2.2.2.2.2⟩
theorem ms_dup (hd : decode cc pc = .ok (.dup, 1)) : mv_Snd cc maxL ret own lvl pc (mo_dup (pc + 1)) := by
  intro p l e s m args below meth c ad D cA K Q L st M H locs ls C hK hN h S k
  match st, h, S with
  | v :: st', h, S =>
    exact lv_dup C.1 C.2.1 hd (mv_tr_cat ad v) (k _ _ _ _ _ _ _ h ⟨S.1, S.2.1, S.2.2.1, S.2.2.2.1, S.2.2.2.2.1, S.2.2.2.2.2.1.cons S.2.2.2.2.2.1.hd, S.2.2.2.2.2.2⟩)
theorem ms_pop (hd : decode cc pc = .ok (.pop, 1)) : mv_Snd cc maxL ret own lvl pc (mo_pop (pc + 1)) := by
  intro p l e s m args below meth c ad D cA K Q L st M H locs ls C hK hN h S k
  match st, h, S with
  | v :: st', h, S =>
    exact lv_pop C.1 C.2.1 hd (mv_tr_cat ad v) (k _ _ _ _ _ _ _ h ⟨S.1, S.2.1, S.2.2.1, S.2.2.2.1, S.2.2.2.2.1, S.2.2.2.2.2.1.tl, S.2.2.2.2.2.2⟩)
theorem ms_dup2 (hd : decode cc pc = .ok (.dup2, 1)) : mv_Snd cc maxL ret own lvl pc (mo_dup2 (pc + 1)) := by
  intro p l e s m args below meth c ad D cA K Q L st M H locs ls C hK hN h S k
  match st, h, S with
  | v :: w :: st', h, S =>
    exact lv_dup2_11 C.1 C.2.1 hd (mv_tr_cat ad v) (mv_tr_cat ad w) (k _ _ _ _ _ _ _ h ⟨S.1, S.2.1, S.2.2.1, S.2.2.2.1, S.2.2.2.2.1, (S.2.2.2.2.2.1.cons S.2.2.2.2.2.1.tl.hd).cons S.2.2.2.2.2.1.hd, S.2.2.2.2.2.2⟩)
theorem ms_goto {off : Int} {tg : Nat} (hd : decode cc pc = .ok (.goto off, 3)) (ht : (pc : Int) + off = (tg : Int)) : mv_Snd cc maxL ret own lvl pc (mo_goto tg) := by
  intro p l e s m args below meth c ad D cA K Q L st M H locs ls C hK hN h S k
  exact lv_goto C.1 C.2.1 hd ht (k _ _ _ _ _ _ _ h S)
theorem ms_ifeq {off : Int} {tg : Nat} (hd : decode cc pc = .ok (.ifCond .eq off, 3)) (ht : (pc : Int) + off = (tg : Int)) : mv_Snd cc maxL ret own lvl pc (mo_ifeq tg (pc + 3)) := by
  intro p l e s m args below meth c ad D cA K Q L st M H locs ls C hK hN h S k
  match st, h, S with
  | .inl x :: st', h, S =>
    have hx := S.2.2.2.2.2.1.hd
    have S' : mv_St ad D cA maxL s.heap M L st' H locs ls := ⟨S.1, S.2.1, S.2.2.1, S.2.2.2.1, S.2.2.2.2.1, S.2.2.2.2.2.1.tl, S.2.2.2.2.2.2⟩
    exact lv_if_eq C.1 C.2.1 hd ht (fun q => k _ _ _ _ _ _ _ (h.1 ((mv_ieq hx mv_r0).mp q)) S') (fun q => k _ _ _ _ _ _ _ (h.2 (fun z => q ((mv_ieq hx mv_r0).mpr z))) S')
theorem ms_ifne {off : Int} {tg : Nat} (hd : decode cc pc = .ok (.ifCond .ne off, 3)) (ht : (pc : Int) + off = (tg : Int)) : mv_Snd cc maxL ret own lvl pc (mo_ifne tg (pc + 3)) := by
  intro p l e s m args below meth c ad D cA K Q L st M H locs ls C hK hN h S k
  match st, h, S with
  | .inl x :: st', h, S =>
    have hx := S.2.2.2.2.2.1.hd
    have S' : mv_St ad D cA maxL s.heap M L st' H locs ls := ⟨S.1, S.2.1, S.2.2.1, S.2.2.2.1, S.2.2.2.2.1, S.2.2.2.2.2.1.tl, S.2.2.2.2.2.2⟩
    exact lv_if_ne C.1 C.2.1 hd ht (fun q => k _ _ _ _ _ _ _ (h.1 (fun z => q ((mv_ieq hx mv_r0).mpr z))) S') (fun q => k _ _ _ _ _ _ _ (h.2 ((mv_ieq hx mv_r0).mp q)) S')
theorem ms_iflt {off : Int} {tg : Nat} (hd : decode cc pc = .ok (.ifCond .lt off, 3)) (ht : (pc : Int) + off = (tg : Int)) : mv_Snd cc maxL ret own lvl pc (mo_iflt tg (pc + 3)) := by
  intro p l e s m args below meth c ad D cA K Q L st M H locs ls C hK hN h S k
  match st, h, S with
  | .inl x :: st', h, S =>
    have hx := S.2.2.2.2.2.1.hd
    have S' : mv_St ad D cA maxL s.heap M L st' H locs ls := ⟨S.1, S.2.1, S.2.2.1, S.2.2.2.1, S.2.2.2.2.1, S.2.2.2.2.2.1.tl, S.2.2.2.2.2.2⟩
    exact lv_if_lt C.1 C.2.1 hd ht (fun q => k _ _ _ _ _ _ _ (h.1 ((mv_ilt hx mv_r0).mp q)) S') (fun q => k _ _ _ _ _ _ _ (h.2 (Int.not_lt.mp fun z => q ((mv_ilt hx mv_r0).mpr z))) S')
theorem ms_ifge {off : Int} {tg : Nat} (hd : decode cc pc = .ok (.ifCond .ge off, 3)) (ht : (pc : Int) + off = (tg : Int)) : mv_Snd cc maxL ret own lvl pc (mo_ifge tg (pc + 3)) := by
  intro p l e s m args below meth c ad D cA K Q L st M H locs ls C hK hN h S k
  match st, h, S with
  | .inl x :: st', h, S =>
    have hx := S.2.2.2.2.2.1.hd
    have S' : mv_St ad D cA maxL s.heap M L st' H locs ls := ⟨S.1, S.2.1, S.2.2.1, S.2.2.2.1, S.2.2.2.2.1, S.2.2.2.2.2.1.tl, S.2.2.2.2.2.2⟩
    exact lv_if_ge C.1 C.2.1 hd ht (fun q => k _ _ _ _ _ _ _ (h.1 ((mv_ile mv_r0 hx).mp q)) S') (fun q => k _ _ _ _ _ _ _ (h.2 (Int.not_le.mp fun z => q ((mv_ile mv_r0 hx).mpr z))) S')
theorem ms_ifle {off : Int} {tg : Nat} (hd : decode cc pc = .ok (.ifCond .le off, 3)) (ht : (pc : Int) + off = (tg : Int)) : mv_Snd cc maxL ret own lvl pc (mo_ifle tg (pc + 3)) := by
  intro p l e s m args below meth c ad D cA K Q L st M H locs ls C hK hN h S k
  match st, h, S with
  | .inl x :: st', h, S =>
    have hx := S.2.2.2.2.2.1.hd
    have S' : mv_St ad D cA maxL s.heap M L st' H locs ls := ⟨S.1, S.2.1, S.2.2.1, S.2.2.2.1, S.2.2.2.2.1, S.2.2.2.2.2.1.tl, S.2.2.2.2.2.2⟩
    exact lv_if_le C.1 C.2.1 hd ht (fun q => k _ _ _ _ _ _ _ (h.1 ((mv_ile hx mv_r0).mp q)) S') (fun q => k _ _ _ _ _ _ _ (h.2 (Int.not_le.mp fun z => q ((mv_ile hx mv_r0).mpr z))) S')
theorem ms_ceq {off : Int} {tg : Nat} (hd : decode cc pc = .ok (.if_icmp .eq off, 3)) (ht : (pc : Int) + off = (tg : Int)) : mv_Snd cc maxL ret own lvl pc (mo_ceq tg (pc + 3)) := by
  intro p l e s m args below meth c ad D cA K Q L st M H locs ls C hK hN h S k
  match st, h, S with
  | .inl y :: .inl x :: st', h, S =>
    have hy := S.2.2.2.2.2.1.hd
    have hx := S.2.2.2.2.2.1.tl.hd
    have S' : mv_St ad D cA maxL s.heap M L st' H locs ls := ⟨S.1, S.2.1, S.2.2.1, S.2.2.2.1, S.2.2.2.2.1, S.2.2.2.2.2.1.tl.tl, S.2.2.2.2.2.2⟩
    exact lv_icmp_eq C.1 C.2.1 hd ht (fun q => k _ _ _ _ _ _ _ (h.1 ((mv_ieq hx hy).mp q)) S') (fun q => k _ _ _ _ _ _ _ (h.2 (fun z => q ((mv_ieq hx hy).mpr z))) S')
theorem ms_cne {off : Int} {tg : Nat} (hd : decode cc pc = .ok (.if_icmp .ne off, 3)) (ht : (pc : Int) + off = (tg : Int)) : mv_Snd cc maxL ret own lvl pc (mo_cne tg (pc + 3)) := by
  intro p l e s m args below meth c ad D cA K Q L st M H locs ls C hK hN h S k
  match st, h, S with
  | .inl y :: .inl x :: st', h, S =>
    have hy := S.2.2.2.2.2.1.hd
    have hx := S.2.2.2.2.2.1.tl.hd
    have S' : mv_St ad D cA maxL s.heap M L st' H locs ls := ⟨S.1, S.2.1, S.2.2.1, S.2.2.2.1, S.2.2.2.2.1, S.2.2.2.2.2.1.tl.tl, S.2.2.2.2.2.2⟩
    exact lv_icmp_ne C.1 C.2.1 hd ht (fun q => k _ _ _ _ _ _ _ (h.1 (fun z => q ((mv_ieq hx hy).mpr z))) S') (fun q => k _ _ _ _ _ _ _ (h.2 ((mv_ieq hx hy).mp q)) S')
theorem ms_clt {off : Int} {tg : Nat} (hd : decode cc pc = .ok (.if_icmp .lt off, 3)) (ht : (pc : Int) + off = (tg : Int)) : mv_Snd cc maxL ret own lvl pc (mo_clt tg (pc + 3)) := by
  intro p l e s m args below meth c ad D cA K Q L st M H locs ls C hK hN h S k
  match st, h, S with
  | .inl y :: .inl x :: st', h, S =>
    have hy := S.2.2.2.2.2.1.hd
    have hx := S.2.2.2.2.2.1.tl.hd
    have S' : mv_St ad D cA maxL s.heap M L st' H locs ls := ⟨S.1, S.2.1, S.2.2.1, S.2.2.2.1, S.2.2.2.2.1, S.2.2.2.2.2.1.tl.tl, S.2.2.2.2.2.2⟩
    exact lv_icmp_lt C.1 C.2.1 hd ht (fun q => k _ _ _ _ _ _ _ (h.1 ((mv_ilt hx hy).mp q)) S') (fun q => k _ _ _ _ _ _ _ (h.2 (Int.not_lt.mp fun z => q ((mv_ilt hx hy).mpr z))) S')
theorem ms_cge {off : Int} {tg : Nat} (hd : decode cc pc = .ok (.if_icmp .ge off, 3)) (ht : (pc : Int) + off = (tg : Int)) : mv_Snd cc maxL ret own lvl pc (mo_cge tg (pc + 3)) := by
  intro p l e s m args below meth c ad D cA K Q L st M H locs ls C hK hN h S k
  match st, h, S with
  | .inl y :: .inl x :: st', h, S =>
    have hy := S.2.2.2.2.2.1.hd
    have hx := S.2.2.2.2.2.1.tl.hd
    have S' : mv_St ad D cA maxL s.heap M L st' H locs ls := ⟨S.1, S.2.1, S.2.2.1, S.2.2.2.1, S.2.2.2.2.1, S.2.2.2.2.2.1.tl.tl, S.2.2.2.2.2.2⟩
    exact lv_icmp_ge C.1 C.2.1 hd ht (fun q => k _ _ _ _ _ _ _ (h.1 ((mv_ile hy hx).mp q)) S') (fun q => k _ _ _ _ _ _ _ (h.2 (Int.not_le.mp fun z => q ((mv_ile hy hx).mpr z))) S')
theorem ms_cgt {off : Int} {tg : Nat} (hd : decode cc pc = .ok (.if_icmp .gt off, 3)) (ht : (pc : Int) + off = (tg : Int)) : mv_Snd cc maxL ret own lvl pc (mo_cgt tg (pc + 3)) := by
  intro p l e s m args below meth c ad D cA K Q L st M H locs ls C hK hN h S k
  match st, h, S with
  | .inl y :: .inl x :: st', h, S =>
    have hy := S.2.2.2.2.2.1.hd
    have hx := S.2.2.2.2.2.1.tl.hd
    have S' : mv_St ad D cA maxL s.heap M L st' H locs ls := ⟨S.1, S.2.1, S.2.2.1, S.2.2.2.1, S.2.2.2.2.1, S.2.2.2.2.2.1.tl.tl, S.2.2.2.2.2.2⟩
    exact lv_icmp_gt C.1 C.2.1 hd ht (fun q => k _ _ _ _ _ _ _ (h.1 ((mv_ilt hy hx).mp q)) S') (fun q => k _ _ _ _ _ _ _ (h.2 (Int.not_lt.mp fun z => q ((mv_ilt hy hx).mpr z))) S')
theorem ms_cle {off : Int} {tg : Nat} (hd : decode cc pc = .ok (.if_icmp .le off, 3)) (ht : (pc : Int) + off = (tg : Int)) : mv_Snd cc maxL ret own lvl pc (mo_cle tg (pc + 3)) := by
  intro p l e s m args below meth c ad D cA K Q L st M H locs ls C hK hN h S k
  match st, h, S with
  | .inl y :: .inl x :: st', h, S =>
    have hy := S.2.2.2.2.2.1.hd
    have hx := S.2.2.2.2.2.1.tl.hd
    have S' : mv_St ad D cA maxL s.heap M L st' H locs ls := ⟨S.1, S.2.1, S.2.2.1, S.2.2.2.1, S.2.2.2.2.1, S.2.2.2.2.2.1.tl.tl, S.2.2.2.2.2.2⟩
    exact lv_icmp_le C.1 C.2.1 hd ht (fun q => k _ _ _ _ _ _ _ (h.1 ((mv_ile hx hy).mp q)) S') (fun q => k _ _ _ _ _ _ _ (h.2 (Int.not_le.mp fun z => q ((mv_ile hx hy).mpr z))) S')
theorem mv_tsw_at : ∀ {lo : Int} {ts : List Nat} {x : Int} {k : Nat → Prop} {t : Nat}, mv_tsw lo ts x k → lo ≤ x → ts[(x - lo).toNat]? = some t → k t
  | lo, [], x, k, t, _, _, ht => by simp at ht
  | lo, t0 :: ts, x, k, t, h, hl, ht => by
    by_cases h0 : x = lo
    · subst h0
      simp at ht
      subst ht
      exact h.1 rfl
    · have e : (x - lo).toNat = (x - (lo + 1)).toNat + 1 := by omega
      rw [e, List.getElem?_cons_succ] at ht
      exact mv_tsw_at h.2 (by omega) ht
theorem ms_tsw {df lo hi : Int} {offs : Array Int} {len dfT : Nat} {tgs : List Nat} (hd : decode cc pc = .ok (.tableswitch df lo hi offs, len)) (hdf : (pc : Int) + df = (dfT : Int)) (hhi : hi = lo + (tgs.length : Int) - 1) (hlen : offs.size = tgs.length)
    (hto : offs.toList.map (fun o => (pc : Int) + o) = tgs.map (fun t : Nat => (t : Int))) : mv_Snd cc maxL ret own lvl pc (mo_tsw lo tgs dfT) := by
  intro p l e s m args below meth c ad D cA K Q L st M H locs ls C hK hN h S k
  match st, h, S with
  | .inl x :: st', h, S =>
    have hx : (Int32.ofInt x).toInt = x := mv_toInt S.2.2.2.2.2.1.hd
    have S' : mv_St ad D cA maxL s.heap M L st' H locs ls := ⟨S.1, S.2.1, S.2.2.1, S.2.2.2.1, S.2.2.2.2.1, S.2.2.2.2.2.1.tl, S.2.2.2.2.2.2⟩
    by_cases ho : x < lo ∨ lo + (tgs.length : Int) ≤ x
    · exact lv_tableOut C.1 C.2.1 hd (by rw [hx]; omega) hdf (k _ _ _ _ _ _ _ (h.1 ho) S')
    · have hlt : (x - lo).toNat < tgs.length := by omega
      have hlo : (x - lo).toNat < offs.toList.length := by simp; omega
      have hmap := congrArg (fun l => l[(x - lo).toNat]?) hto
      simp only [List.getElem?_map, List.getElem?_eq_getElem hlo, List.getElem?_eq_getElem hlt, Option.map_some, Option.some.injEq] at hmap
      refine lv_tableIn C.1 C.2.1 (tgt := tgs[(x - lo).toNat]) (off := offs.toList[(x - lo).toNat]) hd (by rw [hx]; omega) (by rw [hx]; omega) (by rw [hx, ← Array.getElem?_toList]; exact List.getElem?_eq_getElem hlo) hmap ?_
      exact k _ _ _ _ _ _ _ (mv_tsw_at h.2 (by omega) (List.getElem?_eq_getElem hlt)) S'
theorem ms_iret (hd : decode cc pc = .ok (.ireturn, 1)) : mv_Snd cc maxL (some .int) own lvl pc mo_iret := by
  intro p l e s m args below meth c ad D cA K Q L st M H locs ls C hK hN h S k
  match st, h, S with
  | [.inl x], h, S =>
    exact W.iret C.1 C.2.1 C.2.2.2.2.2.1 (fun t ht hW => ⟨⟨some (.inl x), M, rfl, h, fun w hw => by cases hw; exact S.2.2.2.2.2.1.hd, S.2.2.2.2.2.2, by rw [ht]; exact S.1⟩, S.2.2.1.F ht⟩) S.2.2.1.2.2 hd C.2.2.2.2.2.2
theorem ms_zret (hd : decode cc pc = .ok (.ireturn, 1)) : mv_Snd cc maxL (some .boolean) own lvl pc mo_zret := by
  intro p l e s m args below meth c ad D cA K Q L st M H locs ls C hK hN h S k
  match st, h, S with
  | [.inl x], h, S =>
    exact W.zret C.1 C.2.1 C.2.2.2.2.2.1 (by rcases h.1 with rfl | rfl <;> rfl) (fun t ht hW => ⟨⟨some (.inl x), M, rfl, h.2, fun w hw => by cases hw; exact S.2.2.2.2.2.1.hd, S.2.2.2.2.2.2, by rw [ht]; exact S.1⟩, S.2.2.1.F ht⟩) S.2.2.1.2.2 hd C.2.2.2.2.2.2
theorem ms_aret {n : String} (hd : decode cc pc = .ok (.areturn, 1)) : mv_Snd cc maxL (some (.object n)) own lvl pc mo_aret := by
  intro p l e s m args below meth c ad D cA K Q L st M H locs ls C hK hN h S k
  match st, h, S with
  | [.inr (t, j)], h, S =>
    exact W.aret C.1 C.2.1 C.2.2.2.2.2.1 (Or.inl ⟨n, rfl⟩) (Or.inr ⟨_, rfl⟩) (fun t' ht hW => ⟨⟨some (.inr (t, j)), M, rfl, h, fun w hw => by cases hw; exact S.2.2.2.2.2.1.hd, S.2.2.2.2.2.2, by rw [ht]; exact S.1⟩, S.2.2.1.F ht⟩) S.2.2.1.2.2 hd C.2.2.2.2.2.2
theorem ms_vret (hd : decode cc pc = .ok (.return_, 1)) : mv_Snd cc maxL none own lvl pc mo_vret := by
  intro p l e s m args below meth c ad D cA K Q L st M H locs ls C hK hN h S k
  match st, h, S with
  | [], h, S =>
    exact W.vret C.1 C.2.1 C.2.2.2.2.2.1 (fun t ht hW => ⟨⟨none, M, rfl, h, fun w hw => (by cases hw), S.2.2.2.2.2.2, by rw [ht]; exact S.1⟩, S.2.2.1.F ht⟩) S.2.2.1.2.2 hd C.2.2.2.2.2.2
end MVS
end
