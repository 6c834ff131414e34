section
/-- a private method of a class that the tables say can be made, by its rows of tables_1 -/
def lw_okq (q : MethodName × Nat) : Prop := (q.1.cls ≠ "java/lang/invoke/MethodHandle" ∧ q.1.cls ≠ "java/lang/invoke/VarHandle") ∧ Cond.instantiable q.1.cls q.2 ∈ tables_1 ∧ Cond.privateMethod q.1 ∈ tables_1 ∧ Cond.instanceMethod q.1 ∈ tables_1
theorem lw_p0 : lw_okq (⟨"QuoteGrid", "beginAction", "()V"⟩, 7) := ⟨⟨by decide +kernel, by decide +kernel⟩, List.mem_of_getElem? (i := 17) (by decide +kernel), List.mem_of_getElem? (i := 352) (by decide +kernel), List.mem_of_getElem? (i := 353) (by decide +kernel)⟩
theorem lw_p1 : lw_okq (⟨"QuoteGrid$History", "dropOldest", "()V"⟩, 2) := ⟨⟨by decide +kernel, by decide +kernel⟩, List.mem_of_getElem? (i := 181) (by decide +kernel), List.mem_of_getElem? (i := 360) (by decide +kernel), List.mem_of_getElem? (i := 361) (by decide +kernel)⟩
theorem lw_p2 : lw_okq (⟨"QuoteGrid$Layout", "cover", "(LQuoteGrid$Quote;I)V"⟩, 3) := ⟨⟨by decide +kernel, by decide +kernel⟩, List.mem_of_getElem? (i := 250) (by decide +kernel), List.mem_of_getElem? (i := 473) (by decide +kernel), List.mem_of_getElem? (i := 474) (by decide +kernel)⟩
theorem lw_p3 : lw_okq (⟨"QuoteGrid$Trial", "isTooNearToAnother", "(LQuoteGrid$Quote;)Z"⟩, 6) := ⟨⟨by decide +kernel, by decide +kernel⟩, List.mem_of_getElem? (i := 242) (by decide +kernel), List.mem_of_getElem? (i := 505) (by decide +kernel), List.mem_of_getElem? (i := 506) (by decide +kernel)⟩
theorem lw_p4 : lw_okq (⟨"QuoteGrid$Trial", "reasonInLayout", "(LQuoteGrid$Quote;)I"⟩, 6) := ⟨⟨by decide +kernel, by decide +kernel⟩, List.mem_of_getElem? (i := 242) (by decide +kernel), List.mem_of_getElem? (i := 517) (by decide +kernel), List.mem_of_getElem? (i := 518) (by decide +kernel)⟩
theorem lw_p5 : lw_okq (⟨"QuoteGrid$Trial", "isBadlyDistant", "(LQuoteGrid$Quote;)Z"⟩, 6) := ⟨⟨by decide +kernel, by decide +kernel⟩, List.mem_of_getElem? (i := 242) (by decide +kernel), List.mem_of_getElem? (i := 529) (by decide +kernel), List.mem_of_getElem? (i := 530) (by decide +kernel)⟩
theorem lw_p6 : lw_okq (⟨"QuoteGrid$Trial", "unrestAt", "(I)I"⟩, 6) := ⟨⟨by decide +kernel, by decide +kernel⟩, List.mem_of_getElem? (i := 242) (by decide +kernel), List.mem_of_getElem? (i := 578) (by decide +kernel), List.mem_of_getElem? (i := 579) (by decide +kernel)⟩
theorem lw_p7 : lw_okq (⟨"QuoteGrid$Reader", "nextSign", "()I"⟩, 5) := ⟨⟨by decide +kernel, by decide +kernel⟩, List.mem_of_getElem? (i := 198) (by decide +kernel), List.mem_of_getElem? (i := 630) (by decide +kernel), List.mem_of_getElem? (i := 631) (by decide +kernel)⟩
theorem lw_p8 : lw_okq (⟨"QuoteGrid$Reader", "readItem", "()V"⟩, 5) := ⟨⟨by decide +kernel, by decide +kernel⟩, List.mem_of_getElem? (i := 198) (by decide +kernel), List.mem_of_getElem? (i := 634) (by decide +kernel), List.mem_of_getElem? (i := 635) (by decide +kernel)⟩
theorem lw_p9 : lw_okq (⟨"QuoteGrid$Reader", "readArticle", "()V"⟩, 5) := ⟨⟨by decide +kernel, by decide +kernel⟩, List.mem_of_getElem? (i := 198) (by decide +kernel), List.mem_of_getElem? (i := 638) (by decide +kernel), List.mem_of_getElem? (i := 639) (by decide +kernel)⟩
theorem lw_p10 : lw_okq (⟨"QuoteGrid$Reader", "readNumber", "(II)I"⟩, 5) := ⟨⟨by decide +kernel, by decide +kernel⟩, List.mem_of_getElem? (i := 198) (by decide +kernel), List.mem_of_getElem? (i := 642) (by decide +kernel), List.mem_of_getElem? (i := 643) (by decide +kernel)⟩
theorem lw_p11 : lw_okq (⟨"QuoteGrid$Reader", "failAt", "(I)V"⟩, 5) := ⟨⟨by decide +kernel, by decide +kernel⟩, List.mem_of_getElem? (i := 198) (by decide +kernel), List.mem_of_getElem? (i := 651) (by decide +kernel), List.mem_of_getElem? (i := 652) (by decide +kernel)⟩
theorem lw_p12 : lw_okq (⟨"QuoteGrid$Reader", "readLines", "(LQuoteGrid$Article;)V"⟩, 5) := ⟨⟨by decide +kernel, by decide +kernel⟩, List.mem_of_getElem? (i := 198) (by decide +kernel), List.mem_of_getElem? (i := 657) (by decide +kernel), List.mem_of_getElem? (i := 658) (by decide +kernel)⟩
theorem lw_p13 : lw_okq (⟨"QuoteGrid$Reader", "readQuote", "()V"⟩, 5) := ⟨⟨by decide +kernel, by decide +kernel⟩, List.mem_of_getElem? (i := 198) (by decide +kernel), List.mem_of_getElem? (i := 662) (by decide +kernel), List.mem_of_getElem? (i := 663) (by decide +kernel)⟩
theorem lw_p14 : lw_okq (⟨"QuoteGrid$Reader", "expect", "(I)V"⟩, 5) := ⟨⟨by decide +kernel, by decide +kernel⟩, List.mem_of_getElem? (i := 198) (by decide +kernel), List.mem_of_getElem? (i := 666) (by decide +kernel), List.mem_of_getElem? (i := 667) (by decide +kernel)⟩
theorem lw_p15 : lw_okq (⟨"QuoteGrid", "currentLayout", "()LQuoteGrid$Layout;"⟩, 7) := ⟨⟨by decide +kernel, by decide +kernel⟩, List.mem_of_getElem? (i := 17) (by decide +kernel), List.mem_of_getElem? (i := 676) (by decide +kernel), List.mem_of_getElem? (i := 677) (by decide +kernel)⟩
def lw_privs_1 : List (MethodName × Nat) := [(⟨"QuoteGrid", "beginAction", "()V"⟩, 7), (⟨"QuoteGrid$History", "dropOldest", "()V"⟩, 2), (⟨"QuoteGrid$Layout", "cover", "(LQuoteGrid$Quote;I)V"⟩, 3), (⟨"QuoteGrid$Trial", "isTooNearToAnother", "(LQuoteGrid$Quote;)Z"⟩, 6), (⟨"QuoteGrid$Trial", "reasonInLayout", "(LQuoteGrid$Quote;)I"⟩, 6), (⟨"QuoteGrid$Trial", "isBadlyDistant", "(LQuoteGrid$Quote;)Z"⟩, 6), (⟨"QuoteGrid$Trial", "unrestAt", "(I)I"⟩, 6), (⟨"QuoteGrid$Reader", "nextSign", "()I"⟩, 5), (⟨"QuoteGrid$Reader", "readItem", "()V"⟩, 5), (⟨"QuoteGrid$Reader", "readArticle", "()V"⟩, 5), (⟨"QuoteGrid$Reader", "readNumber", "(II)I"⟩, 5), (⟨"QuoteGrid$Reader", "failAt", "(I)V"⟩, 5), (⟨"QuoteGrid$Reader", "readLines", "(LQuoteGrid$Article;)V"⟩, 5), (⟨"QuoteGrid$Reader", "readQuote", "()V"⟩, 5), (⟨"QuoteGrid$Reader", "expect", "(I)V"⟩, 5), (⟨"QuoteGrid", "currentLayout", "()LQuoteGrid$Layout;"⟩, 7)]
theorem lw_r1 : ∀ q ∈ lw_privs_1, lw_okq q := List.forall_mem_cons.mpr ⟨lw_p0, List.forall_mem_cons.mpr ⟨lw_p1, List.forall_mem_cons.mpr ⟨lw_p2, List.forall_mem_cons.mpr ⟨lw_p3, List.forall_mem_cons.mpr ⟨lw_p4, List.forall_mem_cons.mpr ⟨lw_p5, List.forall_mem_cons.mpr ⟨lw_p6, List.forall_mem_cons.mpr ⟨lw_p7, List.forall_mem_cons.mpr ⟨lw_p8, List.forall_mem_cons.mpr ⟨lw_p9, List.forall_mem_cons.mpr ⟨lw_p10, List.forall_mem_cons.mpr ⟨lw_p11, List.forall_mem_cons.mpr ⟨lw_p12, List.forall_mem_cons.mpr ⟨lw_p13, List.forall_mem_cons.mpr ⟨lw_p14, List.forall_mem_cons.mpr ⟨lw_p15, fun _ h => absurd h List.not_mem_nil⟩⟩⟩⟩⟩⟩⟩⟩⟩⟩⟩⟩⟩⟩⟩⟩
theorem lw_p16 : lw_okq (⟨"QuoteGridModel", "act", "()V"⟩, 19) := ⟨⟨by decide +kernel, by decide +kernel⟩, List.mem_of_getElem? (i := 744) (by decide +kernel), List.mem_of_getElem? (i := 815) (by decide +kernel), List.mem_of_getElem? (i := 816) (by decide +kernel)⟩
theorem lw_p17 : lw_okq (⟨"QuoteGridModel", "putArticle", "(II)V"⟩, 19) := ⟨⟨by decide +kernel, by decide +kernel⟩, List.mem_of_getElem? (i := 744) (by decide +kernel), List.mem_of_getElem? (i := 819) (by decide +kernel), List.mem_of_getElem? (i := 820) (by decide +kernel)⟩
theorem lw_p18 : lw_okq (⟨"QuoteGridModel", "isArticle", "(I)Z"⟩, 19) := ⟨⟨by decide +kernel, by decide +kernel⟩, List.mem_of_getElem? (i := 744) (by decide +kernel), List.mem_of_getElem? (i := 827) (by decide +kernel), List.mem_of_getElem? (i := 828) (by decide +kernel)⟩
theorem lw_p19 : lw_okq (⟨"QuoteGridModel", "ofQuote", "(II)I"⟩, 19) := ⟨⟨by decide +kernel, by decide +kernel⟩, List.mem_of_getElem? (i := 744) (by decide +kernel), List.mem_of_getElem? (i := 831) (by decide +kernel), List.mem_of_getElem? (i := 832) (by decide +kernel)⟩
theorem lw_p20 : lw_okq (⟨"QuoteGridModel", "takeQuote", "(I)V"⟩, 19) := ⟨⟨by decide +kernel, by decide +kernel⟩, List.mem_of_getElem? (i := 744) (by decide +kernel), List.mem_of_getElem? (i := 835) (by decide +kernel), List.mem_of_getElem? (i := 836) (by decide +kernel)⟩
theorem lw_p21 : lw_okq (⟨"QuoteGridModel", "setQuote", "(III)V"⟩, 19) := ⟨⟨by decide +kernel, by decide +kernel⟩, List.mem_of_getElem? (i := 744) (by decide +kernel), List.mem_of_getElem? (i := 839) (by decide +kernel), List.mem_of_getElem? (i := 840) (by decide +kernel)⟩
theorem lw_p22 : lw_okq (⟨"QuoteGridModel", "lastSentence", "(I)I"⟩, 19) := ⟨⟨by decide +kernel, by decide +kernel⟩, List.mem_of_getElem? (i := 744) (by decide +kernel), List.mem_of_getElem? (i := 847) (by decide +kernel), List.mem_of_getElem? (i := 848) (by decide +kernel)⟩
theorem lw_p23 : lw_okq (⟨"QuoteGridModel", "of", "(II)I"⟩, 19) := ⟨⟨by decide +kernel, by decide +kernel⟩, List.mem_of_getElem? (i := 744) (by decide +kernel), List.mem_of_getElem? (i := 851) (by decide +kernel), List.mem_of_getElem? (i := 852) (by decide +kernel)⟩
theorem lw_p24 : lw_okq (⟨"QuoteGridModel", "putSentence", "(II)I"⟩, 19) := ⟨⟨by decide +kernel, by decide +kernel⟩, List.mem_of_getElem? (i := 744) (by decide +kernel), List.mem_of_getElem? (i := 862) (by decide +kernel), List.mem_of_getElem? (i := 863) (by decide +kernel)⟩
theorem lw_p25 : lw_okq (⟨"QuoteGridModel", "isSentence", "(II)Z"⟩, 19) := ⟨⟨by decide +kernel, by decide +kernel⟩, List.mem_of_getElem? (i := 744) (by decide +kernel), List.mem_of_getElem? (i := 870) (by decide +kernel), List.mem_of_getElem? (i := 871) (by decide +kernel)⟩
theorem lw_p26 : lw_okq (⟨"QuoteGridModel", "putQuote", "(IIII)V"⟩, 19) := ⟨⟨by decide +kernel, by decide +kernel⟩, List.mem_of_getElem? (i := 744) (by decide +kernel), List.mem_of_getElem? (i := 874) (by decide +kernel), List.mem_of_getElem? (i := 875) (by decide +kernel)⟩
theorem lw_p27 : lw_okq (⟨"QuoteGridModel", "put", "(IIII)V"⟩, 19) := ⟨⟨by decide +kernel, by decide +kernel⟩, List.mem_of_getElem? (i := 744) (by decide +kernel), List.mem_of_getElem? (i := 878) (by decide +kernel), List.mem_of_getElem? (i := 879) (by decide +kernel)⟩
theorem lw_p28 : lw_okq (⟨"QuoteGridModel", "isQuote", "(I)Z"⟩, 19) := ⟨⟨by decide +kernel, by decide +kernel⟩, List.mem_of_getElem? (i := 744) (by decide +kernel), List.mem_of_getElem? (i := 886) (by decide +kernel), List.mem_of_getElem? (i := 887) (by decide +kernel)⟩
theorem lw_p29 : lw_okq (⟨"QuoteGridModel", "refusalOf", "(IIII)I"⟩, 19) := ⟨⟨by decide +kernel, by decide +kernel⟩, List.mem_of_getElem? (i := 744) (by decide +kernel), List.mem_of_getElem? (i := 897) (by decide +kernel), List.mem_of_getElem? (i := 898) (by decide +kernel)⟩
theorem lw_p30 : lw_okq (⟨"QuoteGridModel", "takeUp", "(I)V"⟩, 19) := ⟨⟨by decide +kernel, by decide +kernel⟩, List.mem_of_getElem? (i := 744) (by decide +kernel), List.mem_of_getElem? (i := 901) (by decide +kernel), List.mem_of_getElem? (i := 902) (by decide +kernel)⟩
theorem lw_p31 : lw_okq (⟨"QuoteGridModel", "noteOver", "()V"⟩, 19) := ⟨⟨by decide +kernel, by decide +kernel⟩, List.mem_of_getElem? (i := 744) (by decide +kernel), List.mem_of_getElem? (i := 905) (by decide +kernel), List.mem_of_getElem? (i := 906) (by decide +kernel)⟩
def lw_privs_2 : List (MethodName × Nat) := [(⟨"QuoteGridModel", "act", "()V"⟩, 19), (⟨"QuoteGridModel", "putArticle", "(II)V"⟩, 19), (⟨"QuoteGridModel", "isArticle", "(I)Z"⟩, 19), (⟨"QuoteGridModel", "ofQuote", "(II)I"⟩, 19), (⟨"QuoteGridModel", "takeQuote", "(I)V"⟩, 19), (⟨"QuoteGridModel", "setQuote", "(III)V"⟩, 19), (⟨"QuoteGridModel", "lastSentence", "(I)I"⟩, 19), (⟨"QuoteGridModel", "of", "(II)I"⟩, 19), (⟨"QuoteGridModel", "putSentence", "(II)I"⟩, 19), (⟨"QuoteGridModel", "isSentence", "(II)Z"⟩, 19), (⟨"QuoteGridModel", "putQuote", "(IIII)V"⟩, 19), (⟨"QuoteGridModel", "put", "(IIII)V"⟩, 19), (⟨"QuoteGridModel", "isQuote", "(I)Z"⟩, 19), (⟨"QuoteGridModel", "refusalOf", "(IIII)I"⟩, 19), (⟨"QuoteGridModel", "takeUp", "(I)V"⟩, 19), (⟨"QuoteGridModel", "noteOver", "()V"⟩, 19)]
theorem lw_r2 : ∀ q ∈ lw_privs_2, lw_okq q := List.forall_mem_cons.mpr ⟨lw_p16, List.forall_mem_cons.mpr ⟨lw_p17, List.forall_mem_cons.mpr ⟨lw_p18, List.forall_mem_cons.mpr ⟨lw_p19, List.forall_mem_cons.mpr ⟨lw_p20, List.forall_mem_cons.mpr ⟨lw_p21, List.forall_mem_cons.mpr ⟨lw_p22, List.forall_mem_cons.mpr ⟨lw_p23, List.forall_mem_cons.mpr ⟨lw_p24, List.forall_mem_cons.mpr ⟨lw_p25, List.forall_mem_cons.mpr ⟨lw_p26, List.forall_mem_cons.mpr ⟨lw_p27, List.forall_mem_cons.mpr ⟨lw_p28, List.forall_mem_cons.mpr ⟨lw_p29, List.forall_mem_cons.mpr ⟨lw_p30, List.forall_mem_cons.mpr ⟨lw_p31, fun _ h => absurd h List.not_mem_nil⟩⟩⟩⟩⟩⟩⟩⟩⟩⟩⟩⟩⟩⟩⟩⟩
theorem lw_p32 : lw_okq (⟨"QuoteGridModel", "layOut", "()V"⟩, 19) := ⟨⟨by decide +kernel, by decide +kernel⟩, List.mem_of_getElem? (i := 744) (by decide +kernel), List.mem_of_getElem? (i := 909) (by decide +kernel), List.mem_of_getElem? (i := 910) (by decide +kernel)⟩
theorem lw_p33 : lw_okq (⟨"QuoteGridModel", "isPlaced", "(I)Z"⟩, 19) := ⟨⟨by decide +kernel, by decide +kernel⟩, List.mem_of_getElem? (i := 744) (by decide +kernel), List.mem_of_getElem? (i := 913) (by decide +kernel), List.mem_of_getElem? (i := 914) (by decide +kernel)⟩
theorem lw_p34 : lw_okq (⟨"QuoteGridModel", "layQuote", "(I)V"⟩, 19) := ⟨⟨by decide +kernel, by decide +kernel⟩, List.mem_of_getElem? (i := 744) (by decide +kernel), List.mem_of_getElem? (i := 917) (by decide +kernel), List.mem_of_getElem? (i := 918) (by decide +kernel)⟩
theorem lw_p35 : lw_okq (⟨"QuoteGridModel", "layArticle", "(I)V"⟩, 19) := ⟨⟨by decide +kernel, by decide +kernel⟩, List.mem_of_getElem? (i := 744) (by decide +kernel), List.mem_of_getElem? (i := 921) (by decide +kernel), List.mem_of_getElem? (i := 922) (by decide +kernel)⟩
theorem lw_p36 : lw_okq (⟨"QuoteGridModel", "reasonOf", "(I)I"⟩, 19) := ⟨⟨by decide +kernel, by decide +kernel⟩, List.mem_of_getElem? (i := 744) (by decide +kernel), List.mem_of_getElem? (i := 925) (by decide +kernel), List.mem_of_getElem? (i := 926) (by decide +kernel)⟩
theorem lw_p37 : lw_okq (⟨"QuoteGridModel", "isNear", "(I)Z"⟩, 19) := ⟨⟨by decide +kernel, by decide +kernel⟩, List.mem_of_getElem? (i := 744) (by decide +kernel), List.mem_of_getElem? (i := 929) (by decide +kernel), List.mem_of_getElem? (i := 930) (by decide +kernel)⟩
theorem lw_p38 : lw_okq (⟨"QuoteGridModel", "between", "(II)I"⟩, 19) := ⟨⟨by decide +kernel, by decide +kernel⟩, List.mem_of_getElem? (i := 744) (by decide +kernel), List.mem_of_getElem? (i := 933) (by decide +kernel), List.mem_of_getElem? (i := 934) (by decide +kernel)⟩
theorem lw_p39 : lw_okq (⟨"QuoteGridModel", "isMoreOver", "()Z"⟩, 19) := ⟨⟨by decide +kernel, by decide +kernel⟩, List.mem_of_getElem? (i := 744) (by decide +kernel), List.mem_of_getElem? (i := 940) (by decide +kernel), List.mem_of_getElem? (i := 941) (by decide +kernel)⟩
theorem lw_p40 : lw_okq (⟨"QuoteGridModel", "hasLineOn", "(II)Z"⟩, 19) := ⟨⟨by decide +kernel, by decide +kernel⟩, List.mem_of_getElem? (i := 744) (by decide +kernel), List.mem_of_getElem? (i := 944) (by decide +kernel), List.mem_of_getElem? (i := 945) (by decide +kernel)⟩
theorem lw_p41 : lw_okq (⟨"QuoteGridModel", "isWrongFromSentence", "(I)Z"⟩, 19) := ⟨⟨by decide +kernel, by decide +kernel⟩, List.mem_of_getElem? (i := 744) (by decide +kernel), List.mem_of_getElem? (i := 948) (by decide +kernel), List.mem_of_getElem? (i := 949) (by decide +kernel)⟩
theorem lw_p42 : lw_okq (⟨"QuoteGridModel", "fromSentence", "(I)I"⟩, 19) := ⟨⟨by decide +kernel, by decide +kernel⟩, List.mem_of_getElem? (i := 744) (by decide +kernel), List.mem_of_getElem? (i := 952) (by decide +kernel), List.mem_of_getElem? (i := 953) (by decide +kernel)⟩
theorem lw_p43 : lw_okq (⟨"QuoteGridModel", "moduleOf", "(I)I"⟩, 19) := ⟨⟨by decide +kernel, by decide +kernel⟩, List.mem_of_getElem? (i := 744) (by decide +kernel), List.mem_of_getElem? (i := 956) (by decide +kernel), List.mem_of_getElem? (i := 957) (by decide +kernel)⟩
theorem lw_p44 : lw_okq (⟨"QuoteGridModel", "fromModule", "(II)I"⟩, 19) := ⟨⟨by decide +kernel, by decide +kernel⟩, List.mem_of_getElem? (i := 744) (by decide +kernel), List.mem_of_getElem? (i := 960) (by decide +kernel), List.mem_of_getElem? (i := 961) (by decide +kernel)⟩
theorem lw_p45 : lw_okq (⟨"QuoteGridModel", "isWrongForOthers", "(I)Z"⟩, 19) := ⟨⟨by decide +kernel, by decide +kernel⟩, List.mem_of_getElem? (i := 744) (by decide +kernel), List.mem_of_getElem? (i := 964) (by decide +kernel), List.mem_of_getElem? (i := 965) (by decide +kernel)⟩
theorem lw_p46 : lw_okq (⟨"QuoteGridModel", "putBack", "(I)V"⟩, 19) := ⟨⟨by decide +kernel, by decide +kernel⟩, List.mem_of_getElem? (i := 744) (by decide +kernel), List.mem_of_getElem? (i := 968) (by decide +kernel), List.mem_of_getElem? (i := 969) (by decide +kernel)⟩
theorem lw_p47 : lw_okq (⟨"QuoteGridModel", "unrest", "()I"⟩, 19) := ⟨⟨by decide +kernel, by decide +kernel⟩, List.mem_of_getElem? (i := 744) (by decide +kernel), List.mem_of_getElem? (i := 972) (by decide +kernel), List.mem_of_getElem? (i := 973) (by decide +kernel)⟩
def lw_privs_3 : List (MethodName × Nat) := [(⟨"QuoteGridModel", "layOut", "()V"⟩, 19), (⟨"QuoteGridModel", "isPlaced", "(I)Z"⟩, 19), (⟨"QuoteGridModel", "layQuote", "(I)V"⟩, 19), (⟨"QuoteGridModel", "layArticle", "(I)V"⟩, 19), (⟨"QuoteGridModel", "reasonOf", "(I)I"⟩, 19), (⟨"QuoteGridModel", "isNear", "(I)Z"⟩, 19), (⟨"QuoteGridModel", "between", "(II)I"⟩, 19), (⟨"QuoteGridModel", "isMoreOver", "()Z"⟩, 19), (⟨"QuoteGridModel", "hasLineOn", "(II)Z"⟩, 19), (⟨"QuoteGridModel", "isWrongFromSentence", "(I)Z"⟩, 19), (⟨"QuoteGridModel", "fromSentence", "(I)I"⟩, 19), (⟨"QuoteGridModel", "moduleOf", "(I)I"⟩, 19), (⟨"QuoteGridModel", "fromModule", "(II)I"⟩, 19), (⟨"QuoteGridModel", "isWrongForOthers", "(I)Z"⟩, 19), (⟨"QuoteGridModel", "putBack", "(I)V"⟩, 19), (⟨"QuoteGridModel", "unrest", "()I"⟩, 19)]
theorem lw_r3 : ∀ q ∈ lw_privs_3, lw_okq q := List.forall_mem_cons.mpr ⟨lw_p32, List.forall_mem_cons.mpr ⟨lw_p33, List.forall_mem_cons.mpr ⟨lw_p34, List.forall_mem_cons.mpr ⟨lw_p35, List.forall_mem_cons.mpr ⟨lw_p36, List.forall_mem_cons.mpr ⟨lw_p37, List.forall_mem_cons.mpr ⟨lw_p38, List.forall_mem_cons.mpr ⟨lw_p39, List.forall_mem_cons.mpr ⟨lw_p40, List.forall_mem_cons.mpr ⟨lw_p41, List.forall_mem_cons.mpr ⟨lw_p42, List.forall_mem_cons.mpr ⟨lw_p43, List.forall_mem_cons.mpr ⟨lw_p44, List.forall_mem_cons.mpr ⟨lw_p45, List.forall_mem_cons.mpr ⟨lw_p46, List.forall_mem_cons.mpr ⟨lw_p47, fun _ h => absurd h List.not_mem_nil⟩⟩⟩⟩⟩⟩⟩⟩⟩⟩⟩⟩⟩⟩⟩⟩
theorem lw_p48 : lw_okq (⟨"QuoteGridModel", "balance", "(I)I"⟩, 19) := ⟨⟨by decide +kernel, by decide +kernel⟩, List.mem_of_getElem? (i := 744) (by decide +kernel), List.mem_of_getElem? (i := 976) (by decide +kernel), List.mem_of_getElem? (i := 977) (by decide +kernel)⟩
theorem lw_p49 : lw_okq (⟨"QuoteGridModel", "best", "(I)I"⟩, 19) := ⟨⟨by decide +kernel, by decide +kernel⟩, List.mem_of_getElem? (i := 744) (by decide +kernel), List.mem_of_getElem? (i := 991) (by decide +kernel), List.mem_of_getElem? (i := 992) (by decide +kernel)⟩
theorem lw_p50 : lw_okq (⟨"QuoteGridModel", "placedMany", "()I"⟩, 19) := ⟨⟨by decide +kernel, by decide +kernel⟩, List.mem_of_getElem? (i := 744) (by decide +kernel), List.mem_of_getElem? (i := 1003) (by decide +kernel), List.mem_of_getElem? (i := 1004) (by decide +kernel)⟩
theorem lw_p51 : lw_okq (⟨"QuoteGridModel", "hold", "()V"⟩, 19) := ⟨⟨by decide +kernel, by decide +kernel⟩, List.mem_of_getElem? (i := 744) (by decide +kernel), List.mem_of_getElem? (i := 1027) (by decide +kernel), List.mem_of_getElem? (i := 1028) (by decide +kernel)⟩
theorem lw_p52 : lw_okq (⟨"QuoteGridModel", "here", "()I"⟩, 19) := ⟨⟨by decide +kernel, by decide +kernel⟩, List.mem_of_getElem? (i := 744) (by decide +kernel), List.mem_of_getElem? (i := 1031) (by decide +kernel), List.mem_of_getElem? (i := 1032) (by decide +kernel)⟩
theorem lw_p53 : lw_okq (⟨"QuoteGridModel", "readsItem", "()Z"⟩, 19) := ⟨⟨by decide +kernel, by decide +kernel⟩, List.mem_of_getElem? (i := 744) (by decide +kernel), List.mem_of_getElem? (i := 1035) (by decide +kernel), List.mem_of_getElem? (i := 1036) (by decide +kernel)⟩
theorem lw_p54 : lw_okq (⟨"QuoteGridModel", "takes", "(I)Z"⟩, 19) := ⟨⟨by decide +kernel, by decide +kernel⟩, List.mem_of_getElem? (i := 744) (by decide +kernel), List.mem_of_getElem? (i := 1039) (by decide +kernel), List.mem_of_getElem? (i := 1040) (by decide +kernel)⟩
theorem lw_p55 : lw_okq (⟨"QuoteGridModel", "readsArticle", "()Z"⟩, 19) := ⟨⟨by decide +kernel, by decide +kernel⟩, List.mem_of_getElem? (i := 744) (by decide +kernel), List.mem_of_getElem? (i := 1043) (by decide +kernel), List.mem_of_getElem? (i := 1044) (by decide +kernel)⟩
theorem lw_p56 : lw_okq (⟨"QuoteGridModel", "reads", "(II)Z"⟩, 19) := ⟨⟨by decide +kernel, by decide +kernel⟩, List.mem_of_getElem? (i := 744) (by decide +kernel), List.mem_of_getElem? (i := 1047) (by decide +kernel), List.mem_of_getElem? (i := 1048) (by decide +kernel)⟩
theorem lw_p57 : lw_okq (⟨"QuoteGridModel", "readsSentences", "(I)Z"⟩, 19) := ⟨⟨by decide +kernel, by decide +kernel⟩, List.mem_of_getElem? (i := 744) (by decide +kernel), List.mem_of_getElem? (i := 1052) (by decide +kernel), List.mem_of_getElem? (i := 1053) (by decide +kernel)⟩
theorem lw_p58 : lw_okq (⟨"QuoteGridModel", "readsQuote", "()Z"⟩, 19) := ⟨⟨by decide +kernel, by decide +kernel⟩, List.mem_of_getElem? (i := 744) (by decide +kernel), List.mem_of_getElem? (i := 1056) (by decide +kernel), List.mem_of_getElem? (i := 1057) (by decide +kernel)⟩
theorem lw_p59 : lw_okq (⟨"QuoteGridModel", "exchange", "()V"⟩, 19) := ⟨⟨by decide +kernel, by decide +kernel⟩, List.mem_of_getElem? (i := 744) (by decide +kernel), List.mem_of_getElem? (i := 1060) (by decide +kernel), List.mem_of_getElem? (i := 1061) (by decide +kernel)⟩
theorem lw_p60 : lw_okq (⟨"QuoteGridModel", "sum", "([I)I"⟩, 19) := ⟨⟨by decide +kernel, by decide +kernel⟩, List.mem_of_getElem? (i := 744) (by decide +kernel), List.mem_of_getElem? (i := 1068) (by decide +kernel), List.mem_of_getElem? (i := 1069) (by decide +kernel)⟩
theorem lw_p61 : lw_okq (⟨"QuoteGridModel", "takenMany", "(IIII)I"⟩, 19) := ⟨⟨by decide +kernel, by decide +kernel⟩, List.mem_of_getElem? (i := 744) (by decide +kernel), List.mem_of_getElem? (i := 1072) (by decide +kernel), List.mem_of_getElem? (i := 1073) (by decide +kernel)⟩
def lw_privs_4 : List (MethodName × Nat) := [(⟨"QuoteGridModel", "balance", "(I)I"⟩, 19), (⟨"QuoteGridModel", "best", "(I)I"⟩, 19), (⟨"QuoteGridModel", "placedMany", "()I"⟩, 19), (⟨"QuoteGridModel", "hold", "()V"⟩, 19), (⟨"QuoteGridModel", "here", "()I"⟩, 19), (⟨"QuoteGridModel", "readsItem", "()Z"⟩, 19), (⟨"QuoteGridModel", "takes", "(I)Z"⟩, 19), (⟨"QuoteGridModel", "readsArticle", "()Z"⟩, 19), (⟨"QuoteGridModel", "reads", "(II)Z"⟩, 19), (⟨"QuoteGridModel", "readsSentences", "(I)Z"⟩, 19), (⟨"QuoteGridModel", "readsQuote", "()Z"⟩, 19), (⟨"QuoteGridModel", "exchange", "()V"⟩, 19), (⟨"QuoteGridModel", "sum", "([I)I"⟩, 19), (⟨"QuoteGridModel", "takenMany", "(IIII)I"⟩, 19)]
theorem lw_r4 : ∀ q ∈ lw_privs_4, lw_okq q := List.forall_mem_cons.mpr ⟨lw_p48, List.forall_mem_cons.mpr ⟨lw_p49, List.forall_mem_cons.mpr ⟨lw_p50, List.forall_mem_cons.mpr ⟨lw_p51, List.forall_mem_cons.mpr ⟨lw_p52, List.forall_mem_cons.mpr ⟨lw_p53, List.forall_mem_cons.mpr ⟨lw_p54, List.forall_mem_cons.mpr ⟨lw_p55, List.forall_mem_cons.mpr ⟨lw_p56, List.forall_mem_cons.mpr ⟨lw_p57, List.forall_mem_cons.mpr ⟨lw_p58, List.forall_mem_cons.mpr ⟨lw_p59, List.forall_mem_cons.mpr ⟨lw_p60, List.forall_mem_cons.mpr ⟨lw_p61, fun _ h => absurd h List.not_mem_nil⟩⟩⟩⟩⟩⟩⟩⟩⟩⟩⟩⟩⟩⟩
def lw_privs : List (MethodName × Nat) := lw_privs_1 ++ (lw_privs_2 ++ (lw_privs_3 ++ (lw_privs_4)))
def lw_tbl : List Cond := k2_sels lw_privs ++ tables_1
theorem lw_privs_ok : ∀ q ∈ lw_privs, lw_okq q := by
  show ∀ q ∈ lw_privs_1 ++ (lw_privs_2 ++ (lw_privs_3 ++ (lw_privs_4))), lw_okq q
  exact List.forall_mem_append.mpr ⟨lw_r1, List.forall_mem_append.mpr ⟨lw_r2, List.forall_mem_append.mpr ⟨lw_r3, lw_r4⟩⟩⟩
end
section
def RX0 : String := "QuoteGrid$Article"
def TX0 : u_T := fun k => match k with
  | 0 => ("QuoteGrid$Article", "lines", "[I", true)
  | 1 => ("QuoteGrid$Article", "start", "I", false)
  | 2 => ("QuoteGrid$Article", "length", "I", false)
  | _ => ("QuoteGrid$Article", "sentenceCount", "I", false)
def tyX0 : Nat → FieldType := fun k => match k with
  | 0 => .array .int
  | 1 => .int
  | 2 => .int
  | _ => .int
abbrev wsX00 : List Cond := u_ws RX0 TX0 4
theorem nmX0 : ∀ a, a < 4 → ∀ b, b < 4 → a ≠ b → (TX0 a).2.1 ≠ (TX0 b).2.1 := by decide +kernel
theorem tyX0_ok : ∀ k, k < 4 → parseFieldDescriptor (TX0 k).2.2.1 = some (tyX0 k) := by decide +kernel
abbrev cX0_init : ByteArray := prog_2_method_1_code
def yX0_init : MethodName := ⟨RX0, "<init>", "()V"⟩
abbrev cX0_copyFrom : ByteArray := prog_2_method_2_code
def yX0_copyFrom : MethodName := ⟨RX0, "copyFrom", "(LQuoteGrid$Article;)V"⟩
abbrev cX0_newSentence : ByteArray := prog_2_method_3_code
def yX0_newSentence : MethodName := ⟨RX0, "newSentence", "(I)I"⟩
abbrev cX0_leastLength : ByteArray := prog_2_method_4_code
def yX0_leastLength : MethodName := ⟨RX0, "leastLength", "()I"⟩
def RX1 : String := "QuoteGrid$Content"
def TX1 : u_T := fun k => match k with
  | 0 => ("QuoteGrid$Content", "articles", "[LQuoteGrid$Article;", true)
  | 1 => ("QuoteGrid$Content", "quotes", "[LQuoteGrid$Quote;", true)
  | 2 => ("QuoteGrid$Content", "rules", "[I", true)
  | 3 => ("QuoteGrid$Content", "articleCount", "I", false)
  | _ => ("QuoteGrid$Content", "quoteCount", "I", false)
def tyX1 : Nat → FieldType := fun k => match k with
  | 0 => .array (.object "QuoteGrid$Article")
  | 1 => .array (.object "QuoteGrid$Quote")
  | 2 => .array .int
  | 3 => .int
  | _ => .int
abbrev wsX10 : List Cond := u_ws RX1 TX1 5
theorem nmX1 : ∀ a, a < 5 → ∀ b, b < 5 → a ≠ b → (TX1 a).2.1 ≠ (TX1 b).2.1 := by decide +kernel
theorem tyX1_ok : ∀ k, k < 5 → parseFieldDescriptor (TX1 k).2.2.1 = some (tyX1 k) := by decide +kernel
abbrev cX1_init : ByteArray := prog_3_method_1_code
def yX1_init : MethodName := ⟨RX1, "<init>", "()V"⟩
abbrev cX1_copyFrom : ByteArray := prog_3_method_2_code
def yX1_copyFrom : MethodName := ⟨RX1, "copyFrom", "(LQuoteGrid$Content;)V"⟩
abbrev cX1_hasArticle : ByteArray := prog_3_method_3_code
def yX1_hasArticle : MethodName := ⟨RX1, "hasArticle", "(I)Z"⟩
abbrev cX1_hasLine : ByteArray := prog_3_method_4_code
def yX1_hasLine : MethodName := ⟨RX1, "hasLine", "(II)Z"⟩
abbrev cX1_hasSentence : ByteArray := prog_3_method_5_code
def yX1_hasSentence : MethodName := ⟨RX1, "hasSentence", "(II)Z"⟩
abbrev cX1_hasQuote : ByteArray := prog_3_method_6_code
def yX1_hasQuote : MethodName := ⟨RX1, "hasQuote", "(I)Z"⟩
abbrev cX1_newArticle : ByteArray := prog_3_method_7_code
def yX1_newArticle : MethodName := ⟨RX1, "newArticle", "(II)I"⟩
abbrev cX1_newQuote : ByteArray := prog_3_method_8_code
def yX1_newQuote : MethodName := ⟨RX1, "newQuote", "(IIII)I"⟩
abbrev cX1_dropArticle : ByteArray := prog_3_method_9_code
def yX1_dropArticle : MethodName := ⟨RX1, "dropArticle", "(I)V"⟩
abbrev cX1_dropQuote : ByteArray := prog_3_method_10_code
def yX1_dropQuote : MethodName := ⟨RX1, "dropQuote", "(I)V"⟩
abbrev cX1_placedQuotes : ByteArray := prog_3_method_11_code
def yX1_placedQuotes : MethodName := ⟨RX1, "placedQuotes", "()I"⟩
abbrev cX1_balanceOf : ByteArray := prog_3_method_12_code
def yX1_balanceOf : MethodName := ⟨RX1, "balanceOf", "(I)I"⟩
abbrev cX1_unrest : ByteArray := prog_3_method_13_code
def yX1_unrest : MethodName := ⟨RX1, "unrest", "()I"⟩
def RX2 : String := "QuoteGrid$Flow"
def TX2 : u_T := fun k => match k with
  | 0 => ("QuoteGrid$Flow", "modules", "[I", true)
  | 1 => ("QuoteGrid$Flow", "linesOnPage", "[I", true)
  | 2 => ("QuoteGrid$Flow", "laid", "I", false)
  | 3 => ("QuoteGrid$Flow", "overset", "I", false)
  | _ => ("QuoteGrid$Flow", "jumps", "I", false)
def tyX2 : Nat → FieldType := fun k => match k with
  | 0 => .array .int
  | 1 => .array .int
  | 2 => .int
  | 3 => .int
  | _ => .int
abbrev wsX20 : List Cond := u_ws RX2 TX2 5
theorem nmX2 : ∀ a, a < 5 → ∀ b, b < 5 → a ≠ b → (TX2 a).2.1 ≠ (TX2 b).2.1 := by decide +kernel
theorem tyX2_ok : ∀ k, k < 5 → parseFieldDescriptor (TX2 k).2.2.1 = some (tyX2 k) := by decide +kernel
abbrev cX2_init : ByteArray := prog_4_method_1_code
def yX2_init : MethodName := ⟨RX2, "<init>", "()V"⟩
abbrev cX2_pour : ByteArray := prog_4_method_2_code
def yX2_pour : MethodName := ⟨RX2, "pour", "(LQuoteGrid$Article;I[I)V"⟩
abbrev cX2_moduleOf : ByteArray := prog_4_method_3_code
def yX2_moduleOf : MethodName := ⟨RX2, "moduleOf", "(I)I"⟩
abbrev cX2_hasLineOn : ByteArray := prog_4_method_4_code
def yX2_hasLineOn : MethodName := ⟨RX2, "hasLineOn", "(I)Z"⟩
def RX3 : String := "QuoteGrid$History"
def TX3 : u_T := fun k => match k with
  | 0 => ("QuoteGrid$History", "states", "[LQuoteGrid$State;", true)
  | _ => ("QuoteGrid$History", "size", "I", false)
def tyX3 : Nat → FieldType := fun k => match k with
  | 0 => .array (.object "QuoteGrid$State")
  | _ => .int
abbrev wsX30 : List Cond := u_ws RX3 TX3 2
theorem nmX3 : ∀ a, a < 2 → ∀ b, b < 2 → a ≠ b → (TX3 a).2.1 ≠ (TX3 b).2.1 := by decide +kernel
theorem tyX3_ok : ∀ k, k < 2 → parseFieldDescriptor (TX3 k).2.2.1 = some (tyX3 k) := by decide +kernel
abbrev cX3_init : ByteArray := prog_5_method_1_code
def yX3_init : MethodName := ⟨RX3, "<init>", "()V"⟩
abbrev cX3_keep : ByteArray := prog_5_method_2_code
def yX3_keep : MethodName := ⟨RX3, "keep", "(LQuoteGrid$State;)V"⟩
abbrev cX3_dropOldest : ByteArray := prog_5_method_3_code
def yX3_dropOldest : MethodName := ⟨RX3, "dropOldest", "()V"⟩
abbrev cX3_giveBackTo : ByteArray := prog_5_method_4_code
def yX3_giveBackTo : MethodName := ⟨RX3, "giveBackTo", "(LQuoteGrid$State;)V"⟩
def RX4 : String := "QuoteGrid$Layout"
def TX4 : u_T := fun k => match k with
  | 0 => ("QuoteGrid$Layout", "takers", "[I", true)
  | 1 => ("QuoteGrid$Layout", "flows", "[LQuoteGrid$Flow;", true)
  | _ => ("QuoteGrid$Layout", "articleCount", "I", false)
def tyX4 : Nat → FieldType := fun k => match k with
  | 0 => .array .int
  | 1 => .array (.object "QuoteGrid$Flow")
  | _ => .int
abbrev wsX40 : List Cond := u_ws RX4 TX4 3
theorem nmX4 : ∀ a, a < 3 → ∀ b, b < 3 → a ≠ b → (TX4 a).2.1 ≠ (TX4 b).2.1 := by decide +kernel
theorem tyX4_ok : ∀ k, k < 3 → parseFieldDescriptor (TX4 k).2.2.1 = some (tyX4 k) := by decide +kernel
abbrev cX4_init : ByteArray := prog_6_method_1_code
def yX4_init : MethodName := ⟨RX4, "<init>", "()V"⟩
abbrev cX4_arrange : ByteArray := prog_6_method_2_code
def yX4_arrange : MethodName := ⟨RX4, "arrange", "(LQuoteGrid$Content;)V"⟩
abbrev cX4_cover : ByteArray := prog_6_method_3_code
def yX4_cover : MethodName := ⟨RX4, "cover", "(LQuoteGrid$Quote;I)V"⟩
abbrev cX4_takenBetween : ByteArray := prog_6_method_4_code
def yX4_takenBetween : MethodName := ⟨RX4, "takenBetween", "(III)I"⟩
abbrev cX4_oversetInAll : ByteArray := prog_6_method_5_code
def yX4_oversetInAll : MethodName := ⟨RX4, "oversetInAll", "()I"⟩
abbrev cX4_jumpsInAll : ByteArray := prog_6_method_6_code
def yX4_jumpsInAll : MethodName := ⟨RX4, "jumpsInAll", "()I"⟩
abbrev cX4_isMoreOverset : ByteArray := prog_6_method_7_code
def yX4_isMoreOverset : MethodName := ⟨RX4, "isMoreOverset", "(LQuoteGrid$Layout;)Z"⟩
abbrev cX4_distanceFromSentence : ByteArray := prog_6_method_8_code
def yX4_distanceFromSentence : MethodName := ⟨RX4, "distanceFromSentence", "(LQuoteGrid$Content;LQuoteGrid$Quote;)I"⟩
def RX5 : String := "QuoteGrid$Quote"
def TX5 : u_T := fun k => match k with
  | 0 => ("QuoteGrid$Quote", "article", "I", false)
  | 1 => ("QuoteGrid$Quote", "sentence", "I", false)
  | 2 => ("QuoteGrid$Quote", "width", "I", false)
  | 3 => ("QuoteGrid$Quote", "height", "I", false)
  | 4 => ("QuoteGrid$Quote", "placed", "Z", false)
  | 5 => ("QuoteGrid$Quote", "page", "I", false)
  | 6 => ("QuoteGrid$Quote", "column", "I", false)
  | _ => ("QuoteGrid$Quote", "row", "I", false)
def tyX5 : Nat → FieldType := fun k => match k with
  | 0 => .int
  | 1 => .int
  | 2 => .int
  | 3 => .int
  | 4 => .boolean
  | 5 => .int
  | 6 => .int
  | _ => .int
abbrev wsX50 : List Cond := u_ws RX5 TX5 8
theorem nmX5 : ∀ a, a < 8 → ∀ b, b < 8 → a ≠ b → (TX5 a).2.1 ≠ (TX5 b).2.1 := by decide +kernel
theorem tyX5_ok : ∀ k, k < 8 → parseFieldDescriptor (TX5 k).2.2.1 = some (tyX5 k) := by decide +kernel
abbrev cX5_init : ByteArray := prog_7_method_1_code
def yX5_init : MethodName := ⟨RX5, "<init>", "()V"⟩
abbrev cX5_copyFrom : ByteArray := prog_7_method_2_code
def yX5_copyFrom : MethodName := ⟨RX5, "copyFrom", "(LQuoteGrid$Quote;)V"⟩
abbrev cX5_moveTo : ByteArray := prog_7_method_3_code
def yX5_moveTo : MethodName := ⟨RX5, "moveTo", "(I)V"⟩
abbrev cX5_leaning : ByteArray := prog_7_method_4_code
def yX5_leaning : MethodName := ⟨RX5, "leaning", "()I"⟩
abbrev cX5_distanceFromModule : ByteArray := prog_7_method_5_code
def yX5_distanceFromModule : MethodName := ⟨RX5, "distanceFromModule", "(I)I"⟩
abbrev cX5_distanceFromQuote : ByteArray := prog_7_method_6_code
def yX5_distanceFromQuote : MethodName := ⟨RX5, "distanceFromQuote", "(LQuoteGrid$Quote;)I"⟩
def RX6 : String := "QuoteGrid$Reader"
def TX6 : u_T := fun k => match k with
  | 0 => ("QuoteGrid$Reader", "text", "LQuoteGrid$Text;", true)
  | 1 => ("QuoteGrid$Reader", "draft", "LQuoteGrid$Content;", true)
  | 2 => ("QuoteGrid$Reader", "items", "I", false)
  | 3 => ("QuoteGrid$Reader", "errorPosition", "I", false)
  | _ => ("QuoteGrid$Reader", "position", "I", false)
def tyX6 : Nat → FieldType := fun k => match k with
  | 0 => .object "QuoteGrid$Text"
  | 1 => .object "QuoteGrid$Content"
  | 2 => .int
  | 3 => .int
  | _ => .int
abbrev wsX60 : List Cond := u_ws RX6 TX6 5
theorem nmX6 : ∀ a, a < 5 → ∀ b, b < 5 → a ≠ b → (TX6 a).2.1 ≠ (TX6 b).2.1 := by decide +kernel
theorem tyX6_ok : ∀ k, k < 5 → parseFieldDescriptor (TX6 k).2.2.1 = some (tyX6 k) := by decide +kernel
abbrev cX6_init : ByteArray := prog_8_method_1_code
def yX6_init : MethodName := ⟨RX6, "<init>", "()V"⟩
abbrev cX6_hasFailed : ByteArray := prog_8_method_2_code
def yX6_hasFailed : MethodName := ⟨RX6, "hasFailed", "()Z"⟩
abbrev cX6_read : ByteArray := prog_8_method_3_code
def yX6_read : MethodName := ⟨RX6, "read", "(LQuoteGrid$Content;)V"⟩
abbrev cX6_readItem : ByteArray := prog_8_method_4_code
def yX6_readItem : MethodName := ⟨RX6, "readItem", "()V"⟩
abbrev cX6_readArticle : ByteArray := prog_8_method_5_code
def yX6_readArticle : MethodName := ⟨RX6, "readArticle", "()V"⟩
abbrev cX6_readLines : ByteArray := prog_8_method_6_code
def yX6_readLines : MethodName := ⟨RX6, "readLines", "(LQuoteGrid$Article;)V"⟩
abbrev cX6_readQuote : ByteArray := prog_8_method_7_code
def yX6_readQuote : MethodName := ⟨RX6, "readQuote", "()V"⟩
abbrev cX6_nextSign : ByteArray := prog_8_method_8_code
def yX6_nextSign : MethodName := ⟨RX6, "nextSign", "()I"⟩
abbrev cX6_expect : ByteArray := prog_8_method_9_code
def yX6_expect : MethodName := ⟨RX6, "expect", "(I)V"⟩
abbrev cX6_readNumber : ByteArray := prog_8_method_10_code
def yX6_readNumber : MethodName := ⟨RX6, "readNumber", "(II)I"⟩
abbrev cX6_isDigit : ByteArray := prog_8_method_11_code
def yX6_isDigit : MethodName := ⟨RX6, "isDigit", "(I)Z"⟩
abbrev cX6_failAt : ByteArray := prog_8_method_12_code
def yX6_failAt : MethodName := ⟨RX6, "failAt", "(I)V"⟩
def RX7 : String := "QuoteGrid$State"
def TX7 : u_T := fun k => match k with
  | 0 => ("QuoteGrid$State", "content", "LQuoteGrid$Content;", true)
  | 1 => ("QuoteGrid$State", "snapshots", "[LQuoteGrid$Content;", true)
  | _ => ("QuoteGrid$State", "snapshotTaken", "[Z", true)
def tyX7 : Nat → FieldType := fun k => match k with
  | 0 => .object "QuoteGrid$Content"
  | 1 => .array (.object "QuoteGrid$Content")
  | _ => .array .boolean
abbrev wsX70 : List Cond := u_ws RX7 TX7 3
theorem nmX7 : ∀ a, a < 3 → ∀ b, b < 3 → a ≠ b → (TX7 a).2.1 ≠ (TX7 b).2.1 := by decide +kernel
theorem tyX7_ok : ∀ k, k < 3 → parseFieldDescriptor (TX7 k).2.2.1 = some (tyX7 k) := by decide +kernel
abbrev cX7_init : ByteArray := prog_9_method_1_code
def yX7_init : MethodName := ⟨RX7, "<init>", "()V"⟩
abbrev cX7_copyFrom : ByteArray := prog_9_method_2_code
def yX7_copyFrom : MethodName := ⟨RX7, "copyFrom", "(LQuoteGrid$State;)V"⟩
abbrev cX7_snapshotCount : ByteArray := prog_9_method_3_code
def yX7_snapshotCount : MethodName := ⟨RX7, "snapshotCount", "()I"⟩
def RX8 : String := "QuoteGrid$Text"
def TX8 : u_T := fun k => match k with
  | 0 => ("QuoteGrid$Text", "signs", "[I", true)
  | _ => ("QuoteGrid$Text", "length", "I", false)
def tyX8 : Nat → FieldType := fun k => match k with
  | 0 => .array .int
  | _ => .int
abbrev wsX80 : List Cond := u_ws RX8 TX8 2
theorem nmX8 : ∀ a, a < 2 → ∀ b, b < 2 → a ≠ b → (TX8 a).2.1 ≠ (TX8 b).2.1 := by decide +kernel
theorem tyX8_ok : ∀ k, k < 2 → parseFieldDescriptor (TX8 k).2.2.1 = some (tyX8 k) := by decide +kernel
abbrev cX8_init : ByteArray := prog_10_method_1_code
def yX8_init : MethodName := ⟨RX8, "<init>", "()V"⟩
def RX9 : String := "QuoteGrid$Trial"
def TX9 : u_T := fun k => match k with
  | 0 => ("QuoteGrid$Trial", "plan", "LQuoteGrid$Content;", true)
  | 1 => ("QuoteGrid$Trial", "before", "LQuoteGrid$Layout;", true)
  | 2 => ("QuoteGrid$Trial", "after", "LQuoteGrid$Layout;", true)
  | 3 => ("QuoteGrid$Trial", "quote", "I", false)
  | 4 => ("QuoteGrid$Trial", "bestModule", "I", false)
  | _ => ("QuoteGrid$Trial", "bestUnrest", "I", false)
def tyX9 : Nat → FieldType := fun k => match k with
  | 0 => .object "QuoteGrid$Content"
  | 1 => .object "QuoteGrid$Layout"
  | 2 => .object "QuoteGrid$Layout"
  | 3 => .int
  | 4 => .int
  | _ => .int
abbrev wsX90 : List Cond := u_ws RX9 TX9 6
theorem nmX9 : ∀ a, a < 6 → ∀ b, b < 6 → a ≠ b → (TX9 a).2.1 ≠ (TX9 b).2.1 := by decide +kernel
theorem tyX9_ok : ∀ k, k < 6 → parseFieldDescriptor (TX9 k).2.2.1 = some (tyX9 k) := by decide +kernel
abbrev cX9_init : ByteArray := prog_11_method_1_code
def yX9_init : MethodName := ⟨RX9, "<init>", "()V"⟩
abbrev cX9_prepare : ByteArray := prog_11_method_2_code
def yX9_prepare : MethodName := ⟨RX9, "prepare", "(LQuoteGrid$Content;I)V"⟩
abbrev cX9_reasonAt : ByteArray := prog_11_method_3_code
def yX9_reasonAt : MethodName := ⟨RX9, "reasonAt", "(I)I"⟩
abbrev cX9_isTooNearToAnother : ByteArray := prog_11_method_4_code
def yX9_isTooNearToAnother : MethodName := ⟨RX9, "isTooNearToAnother", "(LQuoteGrid$Quote;)Z"⟩
abbrev cX9_reasonInLayout : ByteArray := prog_11_method_5_code
def yX9_reasonInLayout : MethodName := ⟨RX9, "reasonInLayout", "(LQuoteGrid$Quote;)I"⟩
abbrev cX9_isBadlyDistant : ByteArray := prog_11_method_6_code
def yX9_isBadlyDistant : MethodName := ⟨RX9, "isBadlyDistant", "(LQuoteGrid$Quote;)Z"⟩
abbrev cX9_seekBest : ByteArray := prog_11_method_7_code
def yX9_seekBest : MethodName := ⟨RX9, "seekBest", "(LQuoteGrid$Content;I)V"⟩
abbrev cX9_unrestAt : ByteArray := prog_11_method_8_code
def yX9_unrestAt : MethodName := ⟨RX9, "unrestAt", "(I)I"⟩
abbrev cX9_greatestLength : ByteArray := prog_11_method_9_code
def yX9_greatestLength : MethodName := ⟨RX9, "greatestLength", "(LQuoteGrid$Content;I)I"⟩
def RX10 : String := "QuoteGrid"
def TX10 : u_T := fun k => match k with
  | 0 => ("QuoteGrid", "state", "LQuoteGrid$State;", true)
  | 1 => ("QuoteGrid", "history", "LQuoteGrid$History;", true)
  | 2 => ("QuoteGrid", "reader", "LQuoteGrid$Reader;", true)
  | 3 => ("QuoteGrid", "text", "LQuoteGrid$Text;", true)
  | 4 => ("QuoteGrid", "trial", "LQuoteGrid$Trial;", true)
  | 5 => ("QuoteGrid", "layout", "LQuoteGrid$Layout;", true)
  | _ => ("QuoteGrid", "layoutIsOld", "Z", false)
def tyX10 : Nat → FieldType := fun k => match k with
  | 0 => .object "QuoteGrid$State"
  | 1 => .object "QuoteGrid$History"
  | 2 => .object "QuoteGrid$Reader"
  | 3 => .object "QuoteGrid$Text"
  | 4 => .object "QuoteGrid$Trial"
  | 5 => .object "QuoteGrid$Layout"
  | _ => .boolean
abbrev wsX100 : List Cond := u_ws RX10 TX10 7
theorem nmX10 : ∀ a, a < 7 → ∀ b, b < 7 → a ≠ b → (TX10 a).2.1 ≠ (TX10 b).2.1 := by decide +kernel
theorem tyX10_ok : ∀ k, k < 7 → parseFieldDescriptor (TX10 k).2.2.1 = some (tyX10 k) := by decide +kernel
abbrev cX10_init : ByteArray := prog_1_method_1_code
def yX10_init : MethodName := ⟨RX10, "<init>", "()V"⟩
abbrev cX10_addArticle : ByteArray := prog_1_method_2_code
def yX10_addArticle : MethodName := ⟨RX10, "addArticle", "(II)I"⟩
abbrev cX10_removeArticle : ByteArray := prog_1_method_3_code
def yX10_removeArticle : MethodName := ⟨RX10, "removeArticle", "(I)I"⟩
abbrev cX10_setArticle : ByteArray := prog_1_method_4_code
def yX10_setArticle : MethodName := ⟨RX10, "setArticle", "(III)I"⟩
abbrev cX10_addSentence : ByteArray := prog_1_method_5_code
def yX10_addSentence : MethodName := ⟨RX10, "addSentence", "(II)I"⟩
abbrev cX10_addQuote : ByteArray := prog_1_method_6_code
def yX10_addQuote : MethodName := ⟨RX10, "addQuote", "(IIII)I"⟩
abbrev cX10_removeQuote : ByteArray := prog_1_method_7_code
def yX10_removeQuote : MethodName := ⟨RX10, "removeQuote", "(I)I"⟩
abbrev cX10_place : ByteArray := prog_1_method_8_code
def yX10_place : MethodName := ⟨RX10, "place", "(IIII)I"⟩
abbrev cX10_lift : ByteArray := prog_1_method_9_code
def yX10_lift : MethodName := ⟨RX10, "lift", "(I)I"⟩
abbrev cX10_floatAll : ByteArray := prog_1_method_10_code
def yX10_floatAll : MethodName := ⟨RX10, "floatAll", "()I"⟩
abbrev cX10_setRule : ByteArray := prog_1_method_11_code
def yX10_setRule : MethodName := ⟨RX10, "setRule", "(II)I"⟩
abbrev cX10_take : ByteArray := prog_1_method_12_code
def yX10_take : MethodName := ⟨RX10, "take", "(I)I"⟩
abbrev cX10_restore : ByteArray := prog_1_method_13_code
def yX10_restore : MethodName := ⟨RX10, "restore", "(I)I"⟩
abbrev cX10_undo : ByteArray := prog_1_method_14_code
def yX10_undo : MethodName := ⟨RX10, "undo", "()I"⟩
abbrev cX10_append : ByteArray := prog_1_method_15_code
def yX10_append : MethodName := ⟨RX10, "append", "(I)I"⟩
abbrev cX10_clearText : ByteArray := prog_1_method_16_code
def yX10_clearText : MethodName := ⟨RX10, "clearText", "()I"⟩
abbrev cX10_load : ByteArray := prog_1_method_17_code
def yX10_load : MethodName := ⟨RX10, "load", "()I"⟩
abbrev cX10_count : ByteArray := prog_1_method_18_code
def yX10_count : MethodName := ⟨RX10, "count", "(I)I"⟩
abbrev cX10_article : ByteArray := prog_1_method_19_code
def yX10_article : MethodName := ⟨RX10, "article", "(II)I"⟩
abbrev cX10_lineAt : ByteArray := prog_1_method_20_code
def yX10_lineAt : MethodName := ⟨RX10, "lineAt", "(II)I"⟩
abbrev cX10_sentence : ByteArray := prog_1_method_21_code
def yX10_sentence : MethodName := ⟨RX10, "sentence", "(III)I"⟩
abbrev cX10_quote : ByteArray := prog_1_method_22_code
def yX10_quote : MethodName := ⟨RX10, "quote", "(II)I"⟩
abbrev cX10_module : ByteArray := prog_1_method_23_code
def yX10_module : MethodName := ⟨RX10, "module", "(I)I"⟩
abbrev cX10_page : ByteArray := prog_1_method_24_code
def yX10_page : MethodName := ⟨RX10, "page", "(II)I"⟩
abbrev cX10_refusal : ByteArray := prog_1_method_25_code
def yX10_refusal : MethodName := ⟨RX10, "refusal", "(IIII)I"⟩
abbrev cX10_bestPlace : ByteArray := prog_1_method_26_code
def yX10_bestPlace : MethodName := ⟨RX10, "bestPlace", "(II)I"⟩
abbrev cX10_troubled : ByteArray := prog_1_method_27_code
def yX10_troubled : MethodName := ⟨RX10, "troubled", "()I"⟩
abbrev cX10_roomFor : ByteArray := prog_1_method_28_code
def yX10_roomFor : MethodName := ⟨RX10, "roomFor", "(I)I"⟩
abbrev cX10_beginAction : ByteArray := prog_1_method_29_code
def yX10_beginAction : MethodName := ⟨RX10, "beginAction", "()V"⟩
abbrev cX10_currentLayout : ByteArray := prog_1_method_30_code
def yX10_currentLayout : MethodName := ⟨RX10, "currentLayout", "()LQuoteGrid$Layout;"⟩
abbrev cX10_isWithin : ByteArray := prog_1_method_31_code
def yX10_isWithin : MethodName := ⟨RX10, "isWithin", "(III)Z"⟩
abbrev cX10_isModule : ByteArray := prog_1_method_32_code
def yX10_isModule : MethodName := ⟨RX10, "isModule", "(I)Z"⟩
abbrev cX10_isPlace : ByteArray := prog_1_method_33_code
def yX10_isPlace : MethodName := ⟨RX10, "isPlace", "(III)Z"⟩
abbrev cX10_moduleAt : ByteArray := prog_1_method_34_code
def yX10_moduleAt : MethodName := ⟨RX10, "moduleAt", "(III)I"⟩
abbrev cX10_pageOf : ByteArray := prog_1_method_35_code
def yX10_pageOf : MethodName := ⟨RX10, "pageOf", "(I)I"⟩
abbrev cX10_columnOf : ByteArray := prog_1_method_36_code
def yX10_columnOf : MethodName := ⟨RX10, "columnOf", "(I)I"⟩
abbrev cX10_rowOf : ByteArray := prog_1_method_37_code
def yX10_rowOf : MethodName := ⟨RX10, "rowOf", "(I)I"⟩
abbrev cX10_differenceOfRuns : ByteArray := prog_1_method_38_code
def yX10_differenceOfRuns : MethodName := ⟨RX10, "differenceOfRuns", "(IIII)I"⟩
def RX11 : String := "QuoteGridModel"
def TX11 : u_T := fun k => match k with
  | 0 => ("QuoteGridModel", "thrown", "I", false)
  | 1 => ("QuoteGridModel", "s", "[I", true)
  | 2 => ("QuoteGridModel", "aside", "[I", true)
  | 3 => ("QuoteGridModel", "saved", "[I", true)
  | 4 => ("QuoteGridModel", "savedMany", "I", false)
  | 5 => ("QuoteGridModel", "text", "[I", true)
  | 6 => ("QuoteGridModel", "length", "I", false)
  | 7 => ("QuoteGridModel", "taken", "[I", true)
  | 8 => ("QuoteGridModel", "lines", "[I", true)
  | 9 => ("QuoteGridModel", "over", "[I", true)
  | 10 => ("QuoteGridModel", "jumps", "[I", true)
  | 11 => ("QuoteGridModel", "overThen", "[I", true)
  | 12 => ("QuoteGridModel", "wasPlaced", "I", false)
  | 13 => ("QuoteGridModel", "wasOn", "I", false)
  | 14 => ("QuoteGridModel", "wasColumn", "I", false)
  | 15 => ("QuoteGridModel", "wasRow", "I", false)
  | 16 => ("QuoteGridModel", "bestUnrest", "I", false)
  | 17 => ("QuoteGridModel", "next", "I", false)
  | _ => ("QuoteGridModel", "number", "I", false)
def tyX11 : Nat → FieldType := fun k => match k with
  | 0 => .int
  | 1 => .array .int
  | 2 => .array .int
  | 3 => .array .int
  | 4 => .int
  | 5 => .array .int
  | 6 => .int
  | 7 => .array .int
  | 8 => .array .int
  | 9 => .array .int
  | 10 => .array .int
  | 11 => .array .int
  | 12 => .int
  | 13 => .int
  | 14 => .int
  | 15 => .int
  | 16 => .int
  | 17 => .int
  | _ => .int
abbrev wsX110 : List Cond := u_ws RX11 TX11 19
theorem nmX11 : ∀ a, a < 19 → ∀ b, b < 19 → a ≠ b → (TX11 a).2.1 ≠ (TX11 b).2.1 := by decide +kernel
theorem tyX11_ok : ∀ k, k < 19 → parseFieldDescriptor (TX11 k).2.2.1 = some (tyX11 k) := by decide +kernel
abbrev cX11_init : ByteArray := prog_13_method_1_code
def yX11_init : MethodName := ⟨RX11, "<init>", "()V"⟩
abbrev cX11_in : ByteArray := prog_13_method_3_code
def yX11_in : MethodName := ⟨RX11, "in", "(III)Z"⟩
abbrev cX11_more : ByteArray := prog_13_method_4_code
def yX11_more : MethodName := ⟨RX11, "more", "(II)I"⟩
abbrev cX11_apart : ByteArray := prog_13_method_5_code
def yX11_apart : MethodName := ⟨RX11, "apart", "(II)I"⟩
abbrev cX11_act : ByteArray := prog_13_method_6_code
def yX11_act : MethodName := ⟨RX11, "act", "()V"⟩
abbrev cX11_hold : ByteArray := prog_13_method_7_code
def yX11_hold : MethodName := ⟨RX11, "hold", "()V"⟩
abbrev cX11_exchange : ByteArray := prog_13_method_8_code
def yX11_exchange : MethodName := ⟨RX11, "exchange", "()V"⟩
abbrev cX11_isArticle : ByteArray := prog_13_method_9_code
def yX11_isArticle : MethodName := ⟨RX11, "isArticle", "(I)Z"⟩
abbrev cX11_isQuote : ByteArray := prog_13_method_10_code
def yX11_isQuote : MethodName := ⟨RX11, "isQuote", "(I)Z"⟩
abbrev cX11_of : ByteArray := prog_13_method_11_code
def yX11_of : MethodName := ⟨RX11, "of", "(II)I"⟩
abbrev cX11_ofQuote : ByteArray := prog_13_method_12_code
def yX11_ofQuote : MethodName := ⟨RX11, "ofQuote", "(II)I"⟩
abbrev cX11_setQuote : ByteArray := prog_13_method_13_code
def yX11_setQuote : MethodName := ⟨RX11, "setQuote", "(III)V"⟩
abbrev cX11_isSentence : ByteArray := prog_13_method_14_code
def yX11_isSentence : MethodName := ⟨RX11, "isSentence", "(II)Z"⟩
abbrev cX11_isPlaced : ByteArray := prog_13_method_15_code
def yX11_isPlaced : MethodName := ⟨RX11, "isPlaced", "(I)Z"⟩
abbrev cX11_layQuote : ByteArray := prog_13_method_16_code
def yX11_layQuote : MethodName := ⟨RX11, "layQuote", "(I)V"⟩
abbrev cX11_layArticle : ByteArray := prog_13_method_17_code
def yX11_layArticle : MethodName := ⟨RX11, "layArticle", "(I)V"⟩
abbrev cX11_layOut : ByteArray := prog_13_method_18_code
def yX11_layOut : MethodName := ⟨RX11, "layOut", "()V"⟩
abbrev cX11_noteOver : ByteArray := prog_13_method_19_code
def yX11_noteOver : MethodName := ⟨RX11, "noteOver", "()V"⟩
abbrev cX11_isMoreOver : ByteArray := prog_13_method_20_code
def yX11_isMoreOver : MethodName := ⟨RX11, "isMoreOver", "()Z"⟩
abbrev cX11_gap : ByteArray := prog_13_method_21_code
def yX11_gap : MethodName := ⟨RX11, "gap", "(IIII)I"⟩
abbrev cX11_fromModule : ByteArray := prog_13_method_22_code
def yX11_fromModule : MethodName := ⟨RX11, "fromModule", "(II)I"⟩
abbrev cX11_between : ByteArray := prog_13_method_23_code
def yX11_between : MethodName := ⟨RX11, "between", "(II)I"⟩
abbrev cX11_moduleOf : ByteArray := prog_13_method_24_code
def yX11_moduleOf : MethodName := ⟨RX11, "moduleOf", "(I)I"⟩
abbrev cX11_fromSentence : ByteArray := prog_13_method_25_code
def yX11_fromSentence : MethodName := ⟨RX11, "fromSentence", "(I)I"⟩
abbrev cX11_isWrongFromSentence : ByteArray := prog_13_method_26_code
def yX11_isWrongFromSentence : MethodName := ⟨RX11, "isWrongFromSentence", "(I)Z"⟩
abbrev cX11_balance : ByteArray := prog_13_method_27_code
def yX11_balance : MethodName := ⟨RX11, "balance", "(I)I"⟩
abbrev cX11_unrest : ByteArray := prog_13_method_28_code
def yX11_unrest : MethodName := ⟨RX11, "unrest", "()I"⟩
abbrev cX11_put : ByteArray := prog_13_method_29_code
def yX11_put : MethodName := ⟨RX11, "put", "(IIII)V"⟩
abbrev cX11_hasLineOn : ByteArray := prog_13_method_30_code
def yX11_hasLineOn : MethodName := ⟨RX11, "hasLineOn", "(II)Z"⟩
abbrev cX11_isNear : ByteArray := prog_13_method_31_code
def yX11_isNear : MethodName := ⟨RX11, "isNear", "(I)Z"⟩
abbrev cX11_isWrongForOthers : ByteArray := prog_13_method_32_code
def yX11_isWrongForOthers : MethodName := ⟨RX11, "isWrongForOthers", "(I)Z"⟩
abbrev cX11_reasonOf : ByteArray := prog_13_method_33_code
def yX11_reasonOf : MethodName := ⟨RX11, "reasonOf", "(I)I"⟩
abbrev cX11_takeUp : ByteArray := prog_13_method_34_code
def yX11_takeUp : MethodName := ⟨RX11, "takeUp", "(I)V"⟩
abbrev cX11_putBack : ByteArray := prog_13_method_35_code
def yX11_putBack : MethodName := ⟨RX11, "putBack", "(I)V"⟩
abbrev cX11_refusalOf : ByteArray := prog_13_method_36_code
def yX11_refusalOf : MethodName := ⟨RX11, "refusalOf", "(IIII)I"⟩
abbrev cX11_best : ByteArray := prog_13_method_37_code
def yX11_best : MethodName := ⟨RX11, "best", "(I)I"⟩
abbrev cX11_putArticle : ByteArray := prog_13_method_38_code
def yX11_putArticle : MethodName := ⟨RX11, "putArticle", "(II)V"⟩
abbrev cX11_addArticle : ByteArray := prog_13_method_39_code
def yX11_addArticle : MethodName := ⟨RX11, "addArticle", "(II)I"⟩
abbrev cX11_takeQuote : ByteArray := prog_13_method_40_code
def yX11_takeQuote : MethodName := ⟨RX11, "takeQuote", "(I)V"⟩
abbrev cX11_removeArticle : ByteArray := prog_13_method_41_code
def yX11_removeArticle : MethodName := ⟨RX11, "removeArticle", "(I)I"⟩
abbrev cX11_lastSentence : ByteArray := prog_13_method_42_code
def yX11_lastSentence : MethodName := ⟨RX11, "lastSentence", "(I)I"⟩
abbrev cX11_setArticle : ByteArray := prog_13_method_43_code
def yX11_setArticle : MethodName := ⟨RX11, "setArticle", "(III)I"⟩
abbrev cX11_putSentence : ByteArray := prog_13_method_44_code
def yX11_putSentence : MethodName := ⟨RX11, "putSentence", "(II)I"⟩
abbrev cX11_addSentence : ByteArray := prog_13_method_45_code
def yX11_addSentence : MethodName := ⟨RX11, "addSentence", "(II)I"⟩
abbrev cX11_putQuote : ByteArray := prog_13_method_46_code
def yX11_putQuote : MethodName := ⟨RX11, "putQuote", "(IIII)V"⟩
abbrev cX11_addQuote : ByteArray := prog_13_method_47_code
def yX11_addQuote : MethodName := ⟨RX11, "addQuote", "(IIII)I"⟩
abbrev cX11_removeQuote : ByteArray := prog_13_method_48_code
def yX11_removeQuote : MethodName := ⟨RX11, "removeQuote", "(I)I"⟩
abbrev cX11_isPlace : ByteArray := prog_13_method_49_code
def yX11_isPlace : MethodName := ⟨RX11, "isPlace", "(III)Z"⟩
abbrev cX11_place : ByteArray := prog_13_method_50_code
def yX11_place : MethodName := ⟨RX11, "place", "(IIII)I"⟩
abbrev cX11_lift : ByteArray := prog_13_method_51_code
def yX11_lift : MethodName := ⟨RX11, "lift", "(I)I"⟩
abbrev cX11_floatAll : ByteArray := prog_13_method_52_code
def yX11_floatAll : MethodName := ⟨RX11, "floatAll", "()I"⟩
abbrev cX11_setRule : ByteArray := prog_13_method_53_code
def yX11_setRule : MethodName := ⟨RX11, "setRule", "(II)I"⟩
abbrev cX11_placedMany : ByteArray := prog_13_method_54_code
def yX11_placedMany : MethodName := ⟨RX11, "placedMany", "()I"⟩
abbrev cX11_take : ByteArray := prog_13_method_55_code
def yX11_take : MethodName := ⟨RX11, "take", "(I)I"⟩
abbrev cX11_restore : ByteArray := prog_13_method_56_code
def yX11_restore : MethodName := ⟨RX11, "restore", "(I)I"⟩
abbrev cX11_undo : ByteArray := prog_13_method_57_code
def yX11_undo : MethodName := ⟨RX11, "undo", "()I"⟩
abbrev cX11_append : ByteArray := prog_13_method_58_code
def yX11_append : MethodName := ⟨RX11, "append", "(I)I"⟩
abbrev cX11_clearText : ByteArray := prog_13_method_59_code
def yX11_clearText : MethodName := ⟨RX11, "clearText", "()I"⟩
abbrev cX11_here : ByteArray := prog_13_method_60_code
def yX11_here : MethodName := ⟨RX11, "here", "()I"⟩
abbrev cX11_reads : ByteArray := prog_13_method_61_code
def yX11_reads : MethodName := ⟨RX11, "reads", "(II)Z"⟩
abbrev cX11_takes : ByteArray := prog_13_method_62_code
def yX11_takes : MethodName := ⟨RX11, "takes", "(I)Z"⟩
abbrev cX11_readsSentences : ByteArray := prog_13_method_63_code
def yX11_readsSentences : MethodName := ⟨RX11, "readsSentences", "(I)Z"⟩
abbrev cX11_readsArticle : ByteArray := prog_13_method_64_code
def yX11_readsArticle : MethodName := ⟨RX11, "readsArticle", "()Z"⟩
abbrev cX11_readsQuote : ByteArray := prog_13_method_65_code
def yX11_readsQuote : MethodName := ⟨RX11, "readsQuote", "()Z"⟩
abbrev cX11_readsItem : ByteArray := prog_13_method_66_code
def yX11_readsItem : MethodName := ⟨RX11, "readsItem", "()Z"⟩
abbrev cX11_load : ByteArray := prog_13_method_67_code
def yX11_load : MethodName := ⟨RX11, "load", "()I"⟩
abbrev cX11_sum : ByteArray := prog_13_method_68_code
def yX11_sum : MethodName := ⟨RX11, "sum", "([I)I"⟩
abbrev cX11_takenMany : ByteArray := prog_13_method_69_code
def yX11_takenMany : MethodName := ⟨RX11, "takenMany", "(IIII)I"⟩
abbrev cX11_count : ByteArray := prog_13_method_70_code
def yX11_count : MethodName := ⟨RX11, "count", "(I)I"⟩
abbrev cX11_article : ByteArray := prog_13_method_71_code
def yX11_article : MethodName := ⟨RX11, "article", "(II)I"⟩
abbrev cX11_lineAt : ByteArray := prog_13_method_72_code
def yX11_lineAt : MethodName := ⟨RX11, "lineAt", "(II)I"⟩
abbrev cX11_sentence : ByteArray := prog_13_method_73_code
def yX11_sentence : MethodName := ⟨RX11, "sentence", "(III)I"⟩
abbrev cX11_quote : ByteArray := prog_13_method_74_code
def yX11_quote : MethodName := ⟨RX11, "quote", "(II)I"⟩
abbrev cX11_module : ByteArray := prog_13_method_75_code
def yX11_module : MethodName := ⟨RX11, "module", "(I)I"⟩
abbrev cX11_page : ByteArray := prog_13_method_76_code
def yX11_page : MethodName := ⟨RX11, "page", "(II)I"⟩
abbrev cX11_refusal : ByteArray := prog_13_method_77_code
def yX11_refusal : MethodName := ⟨RX11, "refusal", "(IIII)I"⟩
abbrev cX11_bestPlace : ByteArray := prog_13_method_78_code
def yX11_bestPlace : MethodName := ⟨RX11, "bestPlace", "(II)I"⟩
abbrev cX11_troubled : ByteArray := prog_13_method_79_code
def yX11_troubled : MethodName := ⟨RX11, "troubled", "()I"⟩
abbrev cX11_roomFor : ByteArray := prog_13_method_80_code
def yX11_roomFor : MethodName := ⟨RX11, "roomFor", "(I)I"⟩
def RJ9 : String := "java/lang/Math"
abbrev cJ9_abs_0f7a4 : ByteArray := prog_14_method_59_code
def yJ9_abs_0f7a4 : MethodName := ⟨RJ9, "abs", "(I)I"⟩
abbrev cJ9_max_7cf53 : ByteArray := prog_14_method_65_code
def yJ9_max_7cf53 : MethodName := ⟨RJ9, "max", "(II)I"⟩
abbrev cJ9_min_7cf53 : ByteArray := prog_14_method_69_code
def yJ9_min_7cf53 : MethodName := ⟨RJ9, "min", "(II)I"⟩
def RJ10 : String := "java/lang/System"
def RJ7 : String := "java/util/Arrays"
abbrev cJ7_fill_53178 : ByteArray := prog_16_method_103_code
def yJ7_fill_53178 : MethodName := ⟨RJ7, "fill", "([II)V"⟩
def RL : String := "QuoteGridLaw"
abbrev cL_law : ByteArray := code
def yL_law : MethodName := ⟨RL, "law", "([I)Z"⟩
abbrev vwCl : List vw_C := [(RX0, TX0, 4), (RX1, TX1, 5), (RX2, TX2, 5), (RX3, TX3, 2), (RX4, TX4, 3), (RX5, TX5, 8), (RX6, TX6, 5), (RX7, TX7, 3), (RX8, TX8, 2), (RX9, TX9, 6), (RX10, TX10, 7), (RX11, TX11, 19)]
end
section
/-! THE SMALL MACHINE. After the two constructors no object is ever made, and no reference field changes but the order of the history's states. So the world is a fixed family of cells (t, j): t a tag (0..11 the classes of vwCl, 12.. arrays by their part), j a number among those of the tag; what changes are whole numbers, m.1 t j k (field or place k of the cell), and m.2 (which state stands at which place of the history's row). An instruction is an operator on conditions (mo_..), a method's code a list of (pc, operator); mv_run walks it; mv_Snd says that an operator is sound for the machine at a pc. -/
abbrev mv_V : Type := Int ⊕ (Nat × Nat)
abbrev mv_L : Type := List (Option mv_V)
abbrev mv_M : Type := (Nat → Nat → Nat → Int) × (Nat → Nat)
abbrev mv_K : Type := Nat → mv_L → List mv_V → mv_M → Prop
abbrev mv_R : Type := Option mv_V → mv_M → Prop
abbrev mv_O : Type := mv_K → mv_R → mv_L → List mv_V → mv_M → Prop
-- the family of cells
def mv_cnt (t : Nat) : Nat := ([120, 20, 18, 1, 3, 160, 1, 6, 1, 1, 1, 1, 20, 20, 20, 120, 6, 6, 1, 1, 3, 3, 18, 18, 1, 1, 1, 1, 1, 1, 1, 1, 1] : List Nat).getD t 0
def mv_len (t : Nat) : Nat := ([0, 0, 0, 0, 0, 0, 0, 0, 0, 0, 0, 0, 6, 8, 3, 8, 2, 2, 5, 140, 360, 6, 200, 3, 407, 407, 2035, 140, 360, 1200, 6, 6, 6] : List Nat).getD t 0
/-- an array of references? -/
def mv_rt (t : Nat) : Bool := Nat.beq t 12 || Nat.beq t 13 || Nat.beq t 16 || Nat.beq t 18 || Nat.beq t 21
/-- which array class: 0 int[], 1 boolean[], 2 Article[], 3 Quote[], 4 Content[], 5 State[], 6 Flow[] -/
def mv_ac (t : Nat) : Nat := ([0, 0, 0, 0, 0, 0, 0, 0, 0, 0, 0, 0, 2, 3, 0, 0, 4, 1, 5, 0, 0, 6] : List Nat).getD t 0
def mv_at (i : Nat) : FieldType := ([.int, .boolean, .object RX0, .object RX5, .object RX1, .object RX7, .object RX2] : List FieldType).getD i .int
/-- the fields of a class: none a number, some (t, a, b) a reference to the cell (t, a * j + b) -/
def mv_fd (C : Nat) : List (Option (Nat × Nat × Nat)) :=
  ([ [some (15, 1, 0), none, none, none],
     [some (12, 1, 0), some (13, 1, 0), some (14, 1, 0), none, none],
     [some (22, 1, 0), some (23, 1, 0), none, none, none],
     [some (18, 0, 0), none],
     [some (20, 1, 0), some (21, 1, 0), none],
     [none, none, none, none, none, none, none, none],
     [some (8, 0, 0), some (1, 0, 19), none, none, none],
     [some (1, 3, 0), some (16, 1, 0), some (17, 1, 0)],
     [some (19, 0, 0), none],
     [some (1, 0, 18), some (4, 0, 0), some (4, 0, 1), none, none, none],
     [some (7, 0, 0), some (3, 0, 0), some (6, 0, 0), some (8, 0, 0), some (9, 0, 0), some (4, 0, 2), none],
     [none, some (24, 0, 0), some (25, 0, 0), some (26, 0, 0), none, some (27, 0, 0), none, some (28, 0, 0), some (29, 0, 0), some (30, 0, 0), some (31, 0, 0), some (32, 0, 0), none, none, none, none, none, none, none] ] : List (List (Option (Nat × Nat × Nat)))).getD C []
/-- the cells that an array of references holds: their tag, their number -/
def mv_et (t : Nat) : Nat := cond (Nat.beq t 12) 0 (cond (Nat.beq t 13) 5 (cond (Nat.beq t 16) 1 (cond (Nat.beq t 18) 7 2)))
def mv_ei (M : mv_M) (t j i : Nat) : Nat := cond (Nat.beq t 12) (6 * j + i) (cond (Nat.beq t 13) (8 * j + i) (cond (Nat.beq t 16) (3 * j + 1 + i) (cond (Nat.beq t 18) (M.2 i) (6 * j + i))))
def mv_IX : List (Nat × Nat) := (List.range 33).flatMap (fun t => (List.range (mv_cnt t)).map (fun j => (t, j)))
theorem mv_IX_mem {t j : Nat} (ht : t < 33) (hj : j < mv_cnt t) : (t, j) ∈ mv_IX :=
  List.mem_flatMap.mpr ⟨t, List.mem_range.mpr ht, List.mem_map.mpr ⟨j, List.mem_range.mpr hj, rfl⟩⟩
theorem mv_mem_IX {x : Nat × Nat} (h : x ∈ mv_IX) : x.1 < 33 ∧ x.2 < mv_cnt x.1 := by
  obtain ⟨t, ht, h⟩ := List.mem_flatMap.mp h
  obtain ⟨j, hj, rfl⟩ := List.mem_map.mp h
  exact ⟨List.mem_range.mp ht, List.mem_range.mp hj⟩
-- what the machine's cells hold
def mv_tr (ad : Nat → Nat → Nat) (v : mv_V) : Value := match v with
  | .inl x => .int (Int32.ofInt x)
  | .inr (t, j) => .ref (ad t j)
def mv_fv (ad : Nat → Nat → Nat) (M : mv_M) (t j k : Nat) (o : Option (Nat × Nat × Nat)) : Value := match o with
  | none => .int (Int32.ofInt (M.1 t j k))
  | some (t2, a, b) => .ref (ad t2 (a * j + b))
def mv_fs (ad : Nat → Nat → Nat) (M : mv_M) (t j : Nat) : List Value := (mv_fd t).mapIdx (fun k o => mv_fv ad M t j k o)
def mv_cell (ad : Nat → Nat → Nat) (cA : Nat → ClassId) (M : mv_M) (t j : Nat) : va_E :=
  if t < 12 then .inr (t, mv_fs ad M t j)
  else if mv_rt t = true then .inl (cA (mv_ac t), mv_len t, .inr (.inr (.inr (.inr (fun i => some (ad (mv_et t) (mv_ei M t j i)))))))
  else .inl (cA (mv_ac t), mv_len t, .inl (fun i => Int32.ofInt (M.1 t j i)))
def mv_ws (ad : Nat → Nat → Nat) (cA : Nat → ClassId) (M : mv_M) : va_W := mv_IX.map (fun x => (ad x.1 x.2, mv_cell ad cA M x.1 x.2))
def mv_tys (cA : Nat → ClassId) : List (ClassId × FieldType) := (List.range 7).map (fun i => (cA i, mv_at i))
theorem mv_tys_at (cA : Nat → ClassId) {i : Nat} (h : i < 7) : (mv_tys cA)[i]? = some (cA i, mv_at i) := by
  simp [mv_tys, h]
/-- whose cells these are -/
def mv_A (ad : Nat → Nat → Nat) : Nat → Prop := fun q => ∃ t j, (t, j) ∈ mv_IX ∧ q = ad t j
def mv_up (f : Nat → Nat → Nat → Int) (t j k : Nat) (v : Int) : Nat → Nat → Nat → Int := fun a b c => if a = t ∧ b = j ∧ c = k then v else f a b c
def mv_us (f : Nat → Nat) (i v : Nat) : Nat → Nat := fun k => if k = i then v else f k
theorem mv_ws_get {A : Nat → Prop} {ad : Nat → Nat → Nat} {cA : Nat → ClassId} {M : mv_M} {t j : Nat} (hD : va_D A (mv_ws ad cA M)) (h : (t, j) ∈ mv_IX) :
    ∃ q, (mv_ws ad cA M)[q]? = some (ad t j, mv_cell ad cA M t j) ∧ ∀ M' : mv_M, (∀ t' j', (t', j') ∈ mv_IX → ¬ (t' = t ∧ j' = j) → mv_cell ad cA M' t' j' = mv_cell ad cA M t' j') → (mv_ws ad cA M).set q (ad t j, mv_cell ad cA M' t j) = mv_ws ad cA M' := by
  obtain ⟨q, hq⟩ := List.getElem?_of_mem h
  have h0 : (mv_ws ad cA M)[q]? = some (ad t j, mv_cell ad cA M t j) := by simp only [mv_ws, List.getElem?_map, hq]; rfl
  refine ⟨q, h0, fun M' hM => ?_⟩
  have hl := (List.getElem?_eq_some_iff.mp h0).1
  apply List.ext_getElem?
  intro i
  by_cases hi : i = q
  · subst hi
    rw [List.getElem?_set_self hl]
    simp only [mv_ws, List.getElem?_map, hq]; rfl
  · rw [List.getElem?_set_ne (Ne.symm hi)]
    simp only [mv_ws, List.getElem?_map]
    cases hx : mv_IX[i]? with
    | none => rfl
    | some x =>
      obtain ⟨t', j'⟩ := x
      have hne : ¬ (t' = t ∧ j' = j) := by
        rintro ⟨rfl, rfl⟩
        exact hi (hD.1 i q (ad t' j', mv_cell ad cA M t' j') (ad t' j', mv_cell ad cA M t' j') (by simp only [mv_ws, List.getElem?_map, hx]; rfl) h0 rfl)
      simp only [Option.map_some]
      rw [hM t' j' (List.mem_of_getElem? hx) hne]
theorem mv_fs_at {ad : Nat → Nat → Nat} {M : mv_M} {C j k : Nat} {o : Option (Nat × Nat × Nat)} (h : (mv_fd C)[k]? = some o) : (mv_fs ad M C j)[k]? = some (mv_fv ad M C j k o) := by
  simp only [mv_fs, List.getElem?_mapIdx, h]; rfl
theorem mv_fs_len {ad : Nat → Nat → Nat} {M : mv_M} {C j : Nat} : (mv_fs ad M C j).length = (mv_fd C).length := by
  simp [mv_fs]
theorem mv_cell_obj {ad : Nat → Nat → Nat} {cA : Nat → ClassId} {M : mv_M} {C j : Nat} (h : C < 12) : mv_cell ad cA M C j = .inr (C, mv_fs ad M C j) := if_pos h
theorem mv_cell_int {ad : Nat → Nat → Nat} {cA : Nat → ClassId} {M : mv_M} {t j : Nat} (h : ¬ t < 12) (hr : mv_rt t = false) : mv_cell ad cA M t j = .inl (cA (mv_ac t), mv_len t, .inl (fun i => Int32.ofInt (M.1 t j i))) := by
  unfold mv_cell; rw [if_neg h, if_neg (by rw [hr]; decide)]
theorem mv_cell_ref {ad : Nat → Nat → Nat} {cA : Nat → ClassId} {M : mv_M} {t j : Nat} (h : ¬ t < 12) (hr : mv_rt t = true) : mv_cell ad cA M t j = .inl (cA (mv_ac t), mv_len t, .inr (.inr (.inr (.inr (fun i => some (ad (mv_et t) (mv_ei M t j i))))))) := by
  unfold mv_cell; rw [if_neg h, if_pos hr]
/-- a number of an object is written -/
theorem mv_fs_put {ad : Nat → Nat → Nat} {M : mv_M} {C j k : Nat} {x : Int} (h : (mv_fd C)[k]? = some none) : (mv_fs ad M C j).set k (.int (Int32.ofInt x)) = mv_fs ad (mv_up M.1 C j k x, M.2) C j := by
  apply List.ext_getElem?
  intro i
  have hk : k < (mv_fs ad M C j).length := by rw [mv_fs_len]; exact (List.getElem?_eq_some_iff.mp h).1
  by_cases hi : i = k
  · subst hi
    rw [List.getElem?_set_self hk, mv_fs_at h]
    simp [mv_fv, mv_up]
  · rw [List.getElem?_set_ne (Ne.symm hi)]
    simp only [mv_fs, List.getElem?_mapIdx]
    cases (mv_fd C)[i]? with
    | none => rfl
    | some o => cases o <;> simp [mv_fv, mv_up, hi]
theorem mv_cell_up {ad : Nat → Nat → Nat} {cA : Nat → ClassId} {M : mv_M} {t j k : Nat} {x : Int} {t' j' : Nat} (h : ¬ (t' = t ∧ j' = j)) : mv_cell ad cA (mv_up M.1 t j k x, M.2) t' j' = mv_cell ad cA M t' j' := by
  have e : ∀ i, mv_up M.1 t j k x t' j' i = M.1 t' j' i := fun i => if_neg (fun q => h ⟨q.1, q.2.1⟩)
  have e2 : mv_fs ad (mv_up M.1 t j k x, M.2) t' j' = mv_fs ad M t' j' := by
    unfold mv_fs
    congr 1
    funext i o
    cases o with
    | none => simp [mv_fv, e]
    | some o => rfl
  unfold mv_cell
  rw [e2]
  by_cases h1 : t' < 12
  · rw [if_pos h1, if_pos h1]
  · rw [if_neg h1, if_neg h1]
    by_cases h2 : mv_rt t' = true
    · rw [if_pos h2, if_pos h2]; rfl
    · rw [if_neg h2, if_neg h2]
      simp only [e]
end
section
/-! The frame of the small machine, what soundness means, and the rows of the plain instructions. -/
def mv_pr (ad : Nat → Nat → Nat) (L : mv_L) : List (Nat × Value) := L.zipIdx.filterMap (fun x => x.1.map (fun v => (x.2, mv_tr ad v)))
theorem mv_pr_mem {ad : Nat → Nat → Nat} {L : mv_L} {i : Nat} {x : Value} : (i, x) ∈ mv_pr ad L ↔ ∃ v, L[i]? = some (some v) ∧ x = mv_tr ad v := by
  simp only [mv_pr, List.mem_filterMap]
  constructor
  · rintro ⟨⟨o, n⟩, h1, h2⟩
    have h1 := List.mem_zipIdx_iff_getElem?.mp h1
    cases o with
    | none => simp at h2
    | some v =>
      simp only [Option.map_some, Option.some.injEq, Prod.mk.injEq] at h2
      obtain ⟨rfl, rfl⟩ := h2
      exact ⟨v, h1, rfl⟩
  · rintro ⟨v, h1, rfl⟩
    exact ⟨(some v, i), List.mem_zipIdx_iff_getElem?.mpr h1, rfl⟩
theorem mv_tr_cat (ad : Nat → Nat → Nat) (v : mv_V) : (mv_tr ad v).category = 1 := by
  rcases v with x | ⟨t, j⟩ <;> rfl
def mv_F (ad : Nat → Nat → Nat) (n : Nat) (ls : Array Slot) (L : mv_L) : Prop := lv_has ls n (mv_pr ad L) ∧ L.length ≤ n
theorem mv_F.at {ad : Nat → Nat → Nat} {n : Nat} {ls : Array Slot} {L : mv_L} (h : mv_F ad n ls L) {i : Nat} {v : mv_V} (hv : L[i]? = some (some v)) : ls[i]? = some (.val (mv_tr ad v)) :=
  h.1.2.2 (i, mv_tr ad v) (mv_pr_mem.mpr ⟨v, hv, rfl⟩)
theorem mv_F.put {ad : Nat → Nat → Nat} {n : Nat} {ls ls' : Array Slot} {L : mv_L} (h : mv_F ad n ls L) {i : Nat} {v : mv_V}
    (h' : lv_has ls' n ((i, mv_tr ad v) :: (mv_pr ad L).filter (fun q => !(q.1 == i) && !(q.1 + 1 == i && q.2.category == 2)))) : mv_F ad n ls' (L.set i (some v)) := by
  refine ⟨⟨h'.1, h'.2.1, fun q hq => h'.2.2 q ?_⟩, by rw [List.length_set]; exact h.2⟩
  obtain ⟨j, x⟩ := q
  obtain ⟨w, hw, rfl⟩ := mv_pr_mem.mp hq
  rw [List.getElem?_set] at hw
  by_cases hj : i = j
  · subst hj
    simp at hw
    rw [hw.2]
    exact List.mem_cons_self
  · rw [if_neg hj] at hw
    refine List.mem_cons_of_mem _ (List.mem_filter.mpr ⟨mv_pr_mem.mpr ⟨w, hw, rfl⟩, ?_⟩)
    have hc := mv_tr_cat ad w
    simp only [hc]
    have : (j == i) = false := by simp; exact fun q => hj q.symm
    simp [this]
def mv_vok (v : mv_V) : Prop := match v with
  | .inl x => -2147483648 ≤ x ∧ x ≤ 2147483647
  | .inr (t, j) => t < 33 ∧ j < mv_cnt t
def mv_Lok (L : mv_L) : Prop := ∀ (i : Nat) (v : mv_V), L[i]? = some (some v) → mv_vok v
def mv_Sok (st : List mv_V) : Prop := ∀ v ∈ st, mv_vok v
def mv_Mok (M : mv_M) : Prop := (∀ t j k, -2147483648 ≤ M.1 t j k ∧ M.1 t j k ≤ 2147483647) ∧ ∀ i, M.2 i < 6
theorem mv_Lok.set {L : mv_L} (h : mv_Lok L) {i : Nat} {v : mv_V} (hv : mv_vok v) : mv_Lok (L.set i (some v)) := by
  intro j w hw
  rw [List.getElem?_set] at hw
  by_cases hj : i = j
  · subst hj
    simp at hw
    rw [← hw.2]; exact hv
  · rw [if_neg hj] at hw
    exact h j w hw
theorem mv_Sok.cons {v : mv_V} {st : List mv_V} (hv : mv_vok v) (h : mv_Sok st) : mv_Sok (v :: st) := fun w hw => (List.mem_cons.mp hw).elim (fun e => by rw [e]; exact hv) (h w)
theorem mv_Sok.tl {v : mv_V} {st : List mv_V} (h : mv_Sok (v :: st)) : mv_Sok st := fun w hw => h w (List.mem_cons_of_mem _ hw)
theorem mv_Sok.hd {v : mv_V} {st : List mv_V} (h : mv_Sok (v :: st)) : mv_vok v := h v List.mem_cons_self
-- whole numbers
theorem mv_toInt {x : Int} (h : -2147483648 ≤ x ∧ x ≤ 2147483647) : (Int32.ofInt x).toInt = x := Int32.toInt_ofInt_of_le (by omega) (by omega)
theorem mv_add (x y : Int) : Int32.ofInt x + Int32.ofInt y = Int32.ofInt (x + y) := (Int32.ofInt_add x y).symm
theorem mv_sub (x y : Int) : Int32.ofInt x - Int32.ofInt y = Int32.ofInt (x - y) := (Int32.ofInt_sub x y).symm
theorem mv_mul (x y : Int) : Int32.ofInt x * Int32.ofInt y = Int32.ofInt (x * y) := (Int32.ofInt_mul x y).symm
theorem mv_neg (x : Int) : -Int32.ofInt x = Int32.ofInt (-x) := (Int32.ofInt_neg x).symm
theorem mv_ieq {x y : Int} (hx : -2147483648 ≤ x ∧ x ≤ 2147483647) (hy : -2147483648 ≤ y ∧ y ≤ 2147483647) : Int32.ofInt x = Int32.ofInt y ↔ x = y :=
  ⟨fun h => by rw [← mv_toInt hx, ← mv_toInt hy, h], fun h => by rw [h]⟩
theorem mv_ile {x y : Int} (hx : -2147483648 ≤ x ∧ x ≤ 2147483647) (hy : -2147483648 ≤ y ∧ y ≤ 2147483647) : Int32.ofInt x ≤ Int32.ofInt y ↔ x ≤ y := by
  rw [Int32.le_iff_toInt_le, mv_toInt hx, mv_toInt hy]
theorem mv_ilt {x y : Int} (hx : -2147483648 ≤ x ∧ x ≤ 2147483647) (hy : -2147483648 ≤ y ∧ y ≤ 2147483647) : Int32.ofInt x < Int32.ofInt y ↔ x < y := by
  rw [Int32.lt_iff_toInt_lt, mv_toInt hx, mv_toInt hy]
theorem mv_i0 : (0 : Int32) = Int32.ofInt 0 := rfl
theorem mv_r0 : -2147483648 ≤ (0 : Int) ∧ (0 : Int) ≤ 2147483647 := ⟨by decide, by decide⟩
theorem mv_div {x y : Int} (hx : 0 ≤ x ∧ x ≤ 2147483647) (hy : 0 < y ∧ y ≤ 2147483647) : Int32.ofInt x / Int32.ofInt y = Int32.ofInt (x / y) := by
  have hx' : -2147483648 ≤ x ∧ x ≤ 2147483647 := ⟨by omega, hx.2⟩
  have hy' : -2147483648 ≤ y ∧ y ≤ 2147483647 := ⟨by omega, hy.2⟩
  have hq : 0 ≤ x / y ∧ x / y ≤ x := ⟨Int.ediv_nonneg hx.1 (by omega), Int.ediv_le_self y hx.1⟩
  have hne : Int32.ofInt y ≠ -1 := by
    intro h
    have := congrArg Int32.toInt h
    rw [mv_toInt hy', show ((-1 : Int32)).toInt = -1 by decide] at this
    omega
  rw [← Int32.toInt_inj, Int32.toInt_div_of_ne_right _ _ hne, mv_toInt hx', mv_toInt hy', mv_toInt ⟨by omega, by omega⟩]
  exact Int.tdiv_eq_ediv_of_nonneg hx.1
theorem mv_rem {x y : Int} (hx : 0 ≤ x ∧ x ≤ 2147483647) (hy : 0 < y ∧ y ≤ 2147483647) : Int32.ofInt x - Int32.ofInt x / Int32.ofInt y * Int32.ofInt y = Int32.ofInt (x % y) := by
  rw [mv_div hx hy, mv_mul, mv_sub]
  congr 1
  have := Int.emod_def x y
  have h2 : x / y * y = y * (x / y) := Int.mul_comm _ _
  omega
-- the places of locals and of the stack
def mv_get : mv_L → Nat → (mv_V → Prop) → Prop
  | [], _, _ => False
  | none :: _, 0, _ => False
  | some v :: _, 0, k => k v
  | _ :: L, n + 1, k => mv_get L n k
def mv_set : mv_L → Nat → mv_V → (mv_L → Prop) → Prop
  | [], _, _, _ => False
  | _ :: L, 0, v, k => k (some v :: L)
  | x :: L, n + 1, v, k => mv_set L n v (fun L' => k (x :: L'))
theorem mv_get_at : ∀ {L : mv_L} {i : Nat} {k : mv_V → Prop}, mv_get L i k → ∃ v, L[i]? = some (some v) ∧ k v
  | [], _, _, h => h.elim
  | none :: _, 0, _, h => h.elim
  | some v :: _, 0, _, h => ⟨v, rfl, h⟩
  | none :: L, n + 1, k, h => mv_get_at (L := L) h
  | some _ :: L, n + 1, k, h => mv_get_at (L := L) h
theorem mv_set_at : ∀ {L : mv_L} {i : Nat} {v : mv_V} {k : mv_L → Prop}, mv_set L i v k → i < L.length ∧ k (L.set i (some v))
  | [], _, _, _, h => h.elim
  | _ :: L, 0, _, _, h => ⟨by simp, h⟩
  | x :: L, n + 1, v, k, h => by
    have := mv_set_at (L := L) (k := fun L' => k (x :: L')) h
    exact ⟨by simp; exact this.1, this.2⟩
def mv_tb : List Cond := lw_tbl.filter goodWord
def mv_nest : List (String × Nat × MethodName) := [("QuoteGrid$Content", 27, ⟨"QuoteGrid$Article", "<init>", "()V"⟩), ("QuoteGrid$Content", 28, ⟨"QuoteGrid$Quote", "<init>", "()V"⟩), ("QuoteGrid", 25, ⟨"QuoteGrid$Reader", "<init>", "()V"⟩), ("QuoteGrid$Reader", 11, ⟨"QuoteGrid$Text", "<init>", "()V"⟩), ("QuoteGrid", 37, ⟨"QuoteGrid$Trial", "<init>", "()V"⟩), ("QuoteGrid$Layout", 21, ⟨"QuoteGrid$Flow", "<init>", "()V"⟩), ("QuoteGrid$Content", 49, ⟨"QuoteGrid", "isWithin", "(III)Z"⟩), ("QuoteGrid$Layout", 81, ⟨"QuoteGrid", "moduleAt", "(III)I"⟩), ("QuoteGrid$Flow", 45, ⟨"QuoteGrid", "pageOf", "(I)I"⟩), ("QuoteGrid$Quote", 37, ⟨"QuoteGrid", "pageOf", "(I)I"⟩), ("QuoteGrid$Quote", 41, ⟨"QuoteGrid", "columnOf", "(I)I"⟩), ("QuoteGrid$Quote", 44, ⟨"QuoteGrid", "rowOf", "(I)I"⟩), ("QuoteGrid$Quote", 56, ⟨"QuoteGrid", "differenceOfRuns", "(IIII)I"⟩), ("QuoteGrid$Flow", 52, ⟨"QuoteGrid", "isWithin", "(III)Z"⟩), ("QuoteGrid$Layout", 109, ⟨"QuoteGrid", "pageOf", "(I)I"⟩), ("QuoteGrid$Trial", 113, ⟨"QuoteGrid", "isWithin", "(III)Z"⟩), ("QuoteGrid$Reader", 117, ⟨"QuoteGrid", "isWithin", "(III)Z"⟩)]
def mv_N (U : State) : Prop := ∀ q ∈ mv_nest, va_Nw (.methodLinkNest q.1 q.2.1 q.2.2 "QuoteGrid") U
theorem mv_N.warm {s U : State} (hW : s.WarmedH U.vm) (h : mv_N s) : mv_N U := fun q hq => va_Nw.warmM hW (h q hq)
theorem mv_N.same {s U : State} (hv : s.vm = U.vm) (h : mv_N s) : mv_N U := fun q hq => va_Nw.same rfl hv (h q hq)
def mv_rm (lvl : Nat) : Room := { frames := lvl + 1, cells := 0, slots := 0, locals := 40 + 30 * lvl }
def mv_Cx (cc : ByteArray) (maxL : Nat) (ret : Option FieldType) (own : String) (p : Program) (s : State) (m : MethodId) (args : Array Value) (meth : Method) (c : Code) : Prop :=
  p.tables.exec = Jvm.exec ∧ c.code = cc ∧ c.maxLocals = maxL ∧ s.vm.findClass own = some m.cls ∧ (∀ w ∈ mv_tb, w.before args s = true) ∧ meth.sig.returnType = ret ∧ meth.locks = false
def mv_Qc (ad : Nat → Nat → Nat) (D : va_G) (cA : Nat → ClassId) (Q : mv_R) : Array Value → State → Outcome → State → Prop := fun _ st oc t =>
  (∃ (v : Option mv_V) (M' : mv_M), oc = .returned (v.map (mv_tr ad)) ∧ Q v M' ∧ (∀ w, v = some w → mv_vok w) ∧ mv_Mok M' ∧ va_P D vwCl (mv_ws ad cA M') t.heap) ∧ va_F (mv_A ad) st t
def mv_St (ad : Nat → Nat → Nat) (D : va_G) (cA : Nat → ClassId) (n : Nat) (H0 : Heap) (M : mv_M) (L : mv_L) (st : List mv_V) (H : Heap) (locs : List Loc) (ls : Array Slot) : Prop :=
  va_P D vwCl (mv_ws ad cA M) H ∧ va_D (mv_A ad) (mv_ws ad cA M) ∧ va_S (mv_A ad) H0 H locs ∧ mv_F ad n ls L ∧ mv_Lok L ∧ mv_Sok st ∧ mv_Mok M
theorem mv_D_any {A : Nat → Prop} {ad : Nat → Nat → Nat} {cA : Nat → ClassId} {M M' : mv_M} (h : va_D A (mv_ws ad cA M)) : va_D A (mv_ws ad cA M') := by
  have key : ∀ (i : Nat) (q : Nat × va_E), (mv_ws ad cA M')[i]? = some q → ∃ q', (mv_ws ad cA M)[i]? = some q' ∧ q'.1 = q.1 := by
    intro i q hq
    simp only [mv_ws, List.getElem?_map] at hq ⊢
    cases hx : mv_IX[i]? with
    | none => rw [hx] at hq; cases hq
    | some x => rw [hx] at hq; cases hq; exact ⟨_, rfl, rfl⟩
  refine ⟨fun i j p q hi hj hpq => ?_, fun k q hk => ?_⟩
  · obtain ⟨p', h1, e1⟩ := key i p hi
    obtain ⟨q', h2, e2⟩ := key j q hj
    exact h.1 i j p' q' h1 h2 (by rw [e1, e2]; exact hpq)
  · obtain ⟨q', h1, e1⟩ := key k q hk
    rw [← e1]; exact h.2 k q' h1
/-- an operator is sound at a pc of a method -/
def mv_Snd (cc : ByteArray) (maxL : Nat) (ret : Option FieldType) (own : String) (lvl : Nat) (pc : Nat) (op : mv_O) : Prop :=
  ∀ (p : Program) (l : Launch) (e : Env) (s : State) (m : MethodId) (args : Array Value) (below : List Frame) (meth : Method) (c : Code) (ad : Nat → Nat → Nat) (D : va_G) (cA : Nat → ClassId) (K : mv_K) (Q : mv_R) (L : mv_L) (st : List mv_V) (M : mv_M) (H : Heap) (locs : List Loc) (ls : Array Slot),
    mv_Cx cc maxL ret own p s m args meth c → va_K D vwCl (mv_tys cA) s → mv_N s → op K Q L st M → mv_St ad D cA maxL s.heap M L st H locs ls →
    (∀ (pc' : Nat) (L' : mv_L) (st' : List mv_V) (M' : mv_M) (H' : Heap) (locs' : List Loc) (ls' : Array Slot), K pc' L' st' M' → mv_St ad D cA maxL s.heap M' L' st' H' locs' ls' →
      W p l e (mv_rm lvl) s m args below meth c H' locs' 0 0 (MQ below (mv_Qc ad D cA Q) args s 0 0 (mv_A ad)) (F0 m pc' ls' (st'.map (mv_tr ad)))) →
    W p l e (mv_rm lvl) s m args below meth c H locs 0 0 (MQ below (mv_Qc ad D cA Q) args s 0 0 (mv_A ad)) (F0 m pc ls (st.map (mv_tr ad)))
-- the plain operators
def mo_no : mv_O := fun _ _ _ _ _ => False
def mo_const (z : Int) (nx : Nat) : mv_O := fun K _ L st M => K nx L (.inl z :: st) M
def mo_iload (i nx : Nat) : mv_O := fun K _ L st M => mv_get L i (fun v => match v with
  | .inl x => K nx L (.inl x :: st) M
  | .inr _ => False)
def mo_aload (i nx : Nat) : mv_O := fun K _ L st M => mv_get L i (fun v => match v with
  | .inr (t, j) => K nx L (.inr (t, j) :: st) M
  | .inl _ => False)
def mo_istore (i nx : Nat) : mv_O := fun K _ L st M => match st with
  | .inl x :: st' => mv_set L i (.inl x) (fun L' => K nx L' st' M)
  | _ => False
def mo_astore (i nx : Nat) : mv_O := fun K _ L st M => match st with
  | .inr (t, j) :: st' => mv_set L i (.inr (t, j)) (fun L' => K nx L' st' M)
  | _ => False
def mo_iinc (i : Nat) (d : Int) (nx : Nat) : mv_O := fun K _ L st M => mv_get L i (fun v => match v with
  | .inl x => (-2147483648 ≤ x + d ∧ x + d ≤ 2147483647) ∧ mv_set L i (.inl (x + d)) (fun L' => K nx L' st M)
  | .inr _ => False)
def mo_iadd (nx : Nat) : mv_O := fun K _ L st M => match st with
  | .inl y :: .inl x :: st' => (-2147483648 ≤ x + y ∧ x + y ≤ 2147483647) ∧ K nx L (.inl (x + y) :: st') M
  | _ => False
def mo_isub (nx : Nat) : mv_O := fun K _ L st M => match st with
  | .inl y :: .inl x :: st' => (-2147483648 ≤ x - y ∧ x - y ≤ 2147483647) ∧ K nx L (.inl (x - y) :: st') M
  | _ => False
def mo_imul (nx : Nat) : mv_O := fun K _ L st M => match st with
  | .inl y :: .inl x :: st' => (-2147483648 ≤ x * y ∧ x * y ≤ 2147483647) ∧ K nx L (.inl (x * y) :: st') M
  | _ => False
def mo_idiv (nx : Nat) : mv_O := fun K _ L st M => match st with
  | .inl y :: .inl x :: st' => (0 ≤ x ∧ 0 < y) ∧ K nx L (.inl (x / y) :: st') M
  | _ => False
def mo_irem (nx : Nat) : mv_O := fun K _ L st M => match st with
  | .inl y :: .inl x :: st' => (0 ≤ x ∧ 0 < y) ∧ K nx L (.inl (x % y) :: st') M
  | _ => False
def mo_ineg (nx : Nat) : mv_O := fun K _ L st M => match st with
  | .inl x :: st' => (-2147483648 ≤ -x ∧ -x ≤ 2147483647) ∧ K nx L (.inl (-x) :: st') M
  | _ => False
def mo_dup (nx : Nat) : mv_O := fun K _ L st M => match st with
  | v :: st' => K nx L (v :: v :: st') M
  | _ => False
def mo_pop (nx : Nat) : mv_O := fun K _ L st M => match st with
  | _ :: st' => K nx L st' M
  | _ => False
def mo_dup2 (nx : Nat) : mv_O := fun K _ L st M => match st with
  | v :: w :: st' => K nx L (v :: w :: v :: w :: st') M
  | _ => False
def mo_goto (tg : Nat) : mv_O := fun K _ L st M => K tg L st M
def mo_ifeq (tg nx : Nat) : mv_O := fun K _ L st M => match st with
  | .inl x :: st' => (x = 0 → K tg L st' M) ∧ (¬ x = 0 → K nx L st' M)
  | _ => False
def mo_ifne (tg nx : Nat) : mv_O := fun K _ L st M => match st with
  | .inl x :: st' => (¬ x = 0 → K tg L st' M) ∧ (x = 0 → K nx L st' M)
  | _ => False
def mo_iflt (tg nx : Nat) : mv_O := fun K _ L st M => match st with
  | .inl x :: st' => (x < 0 → K tg L st' M) ∧ (0 ≤ x → K nx L st' M)
  | _ => False
def mo_ifge (tg nx : Nat) : mv_O := fun K _ L st M => match st with
  | .inl x :: st' => (0 ≤ x → K tg L st' M) ∧ (x < 0 → K nx L st' M)
  | _ => False
def mo_ifle (tg nx : Nat) : mv_O := fun K _ L st M => match st with
  | .inl x :: st' => (x ≤ 0 → K tg L st' M) ∧ (0 < x → K nx L st' M)
  | _ => False
def mo_ceq (tg nx : Nat) : mv_O := fun K _ L st M => match st with
  | .inl y :: .inl x :: st' => (x = y → K tg L st' M) ∧ (¬ x = y → K nx L st' M)
  | _ => False
def mo_cne (tg nx : Nat) : mv_O := fun K _ L st M => match st with
  | .inl y :: .inl x :: st' => (¬ x = y → K tg L st' M) ∧ (x = y → K nx L st' M)
  | _ => False
def mo_clt (tg nx : Nat) : mv_O := fun K _ L st M => match st with
  | .inl y :: .inl x :: st' => (x < y → K tg L st' M) ∧ (y ≤ x → K nx L st' M)
  | _ => False
def mo_cge (tg nx : Nat) : mv_O := fun K _ L st M => match st with
  | .inl y :: .inl x :: st' => (y ≤ x → K tg L st' M) ∧ (x < y → K nx L st' M)
  | _ => False
def mo_cgt (tg nx : Nat) : mv_O := fun K _ L st M => match st with
  | .inl y :: .inl x :: st' => (y < x → K tg L st' M) ∧ (x ≤ y → K nx L st' M)
  | _ => False
def mo_cle (tg nx : Nat) : mv_O := fun K _ L st M => match st with
  | .inl y :: .inl x :: st' => (x ≤ y → K tg L st' M) ∧ (y < x → K nx L st' M)
  | _ => False
def mv_tsw : Int → List Nat → Int → (Nat → Prop) → Prop
  | _, [], _, _ => True
  | lo, t :: ts, x, k => (x = lo → k t) ∧ mv_tsw (lo + 1) ts x k
def mo_tsw (lo : Int) (tgs : List Nat) (df : Nat) : mv_O := fun K _ L st M => match st with
  | .inl x :: st' => ((x < lo ∨ lo + (tgs.length : Int) ≤ x) → K df L st' M) ∧ mv_tsw lo tgs x (fun t => K t L st' M)
  | _ => False
def mo_iret : mv_O := fun _ Q _ st M => match st with
  | [.inl x] => Q (some (.inl x)) M
  | _ => False
def mo_zret : mv_O := fun _ Q _ st M => match st with
  | [.inl x] => (x = 0 ∨ x = 1) ∧ Q (some (.inl x)) M
  | _ => False
def mo_aret : mv_O := fun _ Q _ st M => match st with
  | [.inr (t, j)] => Q (some (.inr (t, j))) M
  | _ => False
def mo_vret : mv_O := fun _ Q _ st M => match st with
  | [] => Q none M
  | _ => False
section MVS
variable {cc : ByteArray} {maxL : Nat} {ret : Option FieldType} {own : String} {lvl pc : Nat}
theorem ms_no : mv_Snd cc maxL ret own lvl pc mo_no := fun _ _ _ _ _ _ _ _ _ _ _ _ _ _ _ _ _ _ _ _ _ _ _ h => h.elim
theorem ms_iconst {n : Int} (hd : decode cc pc = .ok (.iconst n, 1)) (hn : -2147483648 ≤ n ∧ n ≤ 2147483647) : mv_Snd cc maxL ret own lvl pc (mo_const n (pc + 1)) := by
  intro p l e s m args below meth c ad D cA K Q L st M H locs ls C hK hN h S k
  exact lv_iconst C.1 C.2.1 hd rfl (k _ _ _ _ _ _ _ h ⟨S.1, S.2.1, S.2.2.1, S.2.2.2.1, S.2.2.2.2.1, S.2.2.2.2.2.1.cons hn, S.2.2.2.2.2.2⟩)
theorem ms_bipush {n : Int} (hd : decode cc pc = .ok (.bipush n, 2)) (hv : (Int8.ofInt n).toInt32 = Int32.ofInt n) (hn : -2147483648 ≤ n ∧ n ≤ 2147483647) : mv_Snd cc maxL ret own lvl pc (mo_const n (pc + 2)) := by
  intro p l e s m args below meth c ad D cA K Q L st M H locs ls C hK hN h S k
  exact lv_bipush C.1 C.2.1 hd hv (k _ _ _ _ _ _ _ h ⟨S.1, S.2.1, S.2.2.1, S.2.2.2.1, S.2.2.2.2.1, S.2.2.2.2.2.1.cons hn, S.2.2.2.2.2.2⟩)
theorem ms_sipush {n : Int} (hd : decode cc pc = .ok (.sipush n, 3)) (hv : (Int16.ofInt n).toInt32 = Int32.ofInt n) (hn : -2147483648 ≤ n ∧ n ≤ 2147483647) : mv_Snd cc maxL ret own lvl pc (mo_const n (pc + 3)) := by
  intro p l e s m args below meth c ad D cA K Q L st M H locs ls C hK hN h S k
  exact lv_sipush C.1 C.2.1 hd hv (k _ _ _ _ _ _ _ h ⟨S.1, S.2.1, S.2.2.1, S.2.2.2.1, S.2.2.2.2.1, S.2.2.2.2.2.1.cons hn, S.2.2.2.2.2.2⟩)
theorem ms_ldc {idx : Nat} {n : Int} (hd : decode cc pc = .ok (.ldc idx, 2)) (hw : Cond.constant own idx (Int32.ofInt n) ∈ mv_tb) (hn : -2147483648 ≤ n ∧ n ≤ 2147483647) : mv_Snd cc maxL ret own lvl pc (mo_const n (pc + 2)) := by
  intro p l e s m args below meth c ad D cA K Q L st M H locs ls C hK hN h S k
  exact lv_ldc C.1 C.2.1 C.2.2.2.1 (C.2.2.2.2.1 _ hw) hd (k _ _ _ _ _ _ _ h ⟨S.1, S.2.1, S.2.2.1, S.2.2.2.1, S.2.2.2.2.1, S.2.2.2.2.2.1.cons hn, S.2.2.2.2.2.2⟩)
theorem ms_iload_n {q : Fin 4} {i : Nat} (hd : decode cc pc = .ok (.iload_n q, 1)) (hi : (q : Nat) = i) : mv_Snd cc maxL ret own lvl pc (mo_iload i (pc + 1)) := by
  intro p l e s m args below meth c ad D cA K Q L st M H locs ls C hK hN h S k
  obtain ⟨v, hv, h⟩ := mv_get_at h
  rcases v with x | ⟨t, j⟩
  · exact lv_iload_n C.1 C.2.1 hd hi (S.2.2.2.1.at hv) (k _ _ _ _ _ _ _ h ⟨S.1, S.2.1, S.2.2.1, S.2.2.2.1, S.2.2.2.2.1, S.2.2.2.2.2.1.cons (S.2.2.2.2.1 _ _ hv), S.2.2.2.2.2.2⟩)
  · exact h.elim
theorem ms_iload {i : Nat} (hd : decode cc pc = .ok (.iload i, 2)) : mv_Snd cc maxL ret own lvl pc (mo_iload i (pc + 2)) := by
  intro p l e s m args below meth c ad D cA K Q L st M H locs ls C hK hN h S k
  obtain ⟨v, hv, h⟩ := mv_get_at h
  rcases v with x | ⟨t, j⟩
  · exact lv_iload C.1 C.2.1 hd (S.2.2.2.1.at hv) (k _ _ _ _ _ _ _ h ⟨S.1, S.2.1, S.2.2.1, S.2.2.2.1, S.2.2.2.2.1, S.2.2.2.2.2.1.cons (S.2.2.2.2.1 _ _ hv), S.2.2.2.2.2.2⟩)
  · exact h.elim
theorem ms_aload_n {q : Fin 4} {i : Nat} (hd : decode cc pc = .ok (.aload_n q, 1)) (hi : (q : Nat) = i) : mv_Snd cc maxL ret own lvl pc (mo_aload i (pc + 1)) := by
  intro p l e s m args below meth c ad D cA K Q L st M H locs ls C hK hN h S k
  obtain ⟨v, hv, h⟩ := mv_get_at h
  rcases v with x | ⟨t, j⟩
  · exact h.elim
  · exact lv_aload_n C.1 C.2.1 hd hi (S.2.2.2.1.at hv) (k _ _ _ _ _ _ _ h ⟨S.1, S.2.1, S.2.2.1, S.2.2.2.1, S.2.2.2.2.1, S.2.2.2.2.2.1.cons (S.2.2.2.2.1 _ _ hv), S.2.2.2.2.2.2⟩)
theorem ms_aload {i : Nat} (hd : decode cc pc = .ok (.aload i, 2)) : mv_Snd cc maxL ret own lvl pc (mo_aload i (pc + 2)) := by
  intro p l e s m args below meth c ad D cA K Q L st M H locs ls C hK hN h S k
  obtain ⟨v, hv, h⟩ := mv_get_at h
  rcases v with x | ⟨t, j⟩
  · exact h.elim
  · exact lv_aload C.1 C.2.1 hd (S.2.2.2.1.at hv) (k _ _ _ _ _ _ _ h ⟨S.1, S.2.1, S.2.2.1, S.2.2.2.1, S.2.2.2.2.1, S.2.2.2.2.2.1.cons (S.2.2.2.2.1 _ _ hv), S.2.2.2.2.2.2⟩)
theorem ms_istore_n {q : Fin 4} {i : Nat} (hd : decode cc pc = .ok (.istore_n q, 1)) (hi : (q : Nat) = i) : mv_Snd cc maxL ret own lvl pc (mo_istore i (pc + 1)) := by
  intro p l e s m args below meth c ad D cA K Q L st M H locs ls C hK hN h S k
  match st, h, S with
  | .inl x :: st', h, S =>
    obtain ⟨hl, h⟩ := mv_set_at h
    refine lv_istore_n C.1 C.2.1 hd hi S.2.2.2.1.1 (Nat.lt_of_lt_of_le hl S.2.2.2.1.2) rfl (fun ls' hl' => ?_)
    exact k _ _ _ _ _ _ _ h ⟨S.1, S.2.1, S.2.2.1, S.2.2.2.1.put (v := .inl x) hl', S.2.2.2.2.1.set S.2.2.2.2.2.1.hd, S.2.2.2.2.2.1.tl, S.2.2.2.2.2.2⟩
theorem ms_istore {i : Nat} (hd : decode cc pc = .ok (.istore i, 2)) : mv_Snd cc maxL ret own lvl pc (mo_istore i (pc + 2)) := by
  intro p l e s m args below meth c ad D cA K Q L st M H locs ls C hK hN h S k
  match st, h, S with
  | .inl x :: st', h, S =>
    obtain ⟨hl, h⟩ := mv_set_at h
    refine lv_istore C.1 C.2.1 hd S.2.2.2.1.1 (Nat.lt_of_lt_of_le hl S.2.2.2.1.2) rfl (fun ls' hl' => ?_)
    exact k _ _ _ _ _ _ _ h ⟨S.1, S.2.1, S.2.2.1, S.2.2.2.1.put (v := .inl x) hl', S.2.2.2.2.1.set S.2.2.2.2.2.1.hd, S.2.2.2.2.2.1.tl, S.2.2.2.2.2.2⟩
theorem ms_astore_n {q : Fin 4} {i : Nat} (hd : decode cc pc = .ok (.astore_n q, 1)) (hi : (q : Nat) = i) : mv_Snd cc maxL ret own lvl pc (mo_astore i (pc + 1)) := by
  intro p l e s m args below meth c ad D cA K Q L st M H locs ls C hK hN h S k
  match st, h, S with
  | .inr (t, j) :: st', h, S =>
    obtain ⟨hl, h⟩ := mv_set_at h
    refine lv_astore_n C.1 C.2.1 hd hi S.2.2.2.1.1 (Nat.lt_of_lt_of_le hl S.2.2.2.1.2) rfl (fun ls' hl' => ?_)
    exact k _ _ _ _ _ _ _ h ⟨S.1, S.2.1, S.2.2.1, S.2.2.2.1.put (v := .inr (t, j)) hl', S.2.2.2.2.1.set S.2.2.2.2.2.1.hd, S.2.2.2.2.2.1.tl, S.2.2.2.2.2.2⟩
theorem ms_astore {i : Nat} (hd : decode cc pc = .ok (.astore i, 2)) : mv_Snd cc maxL ret own lvl pc (mo_astore i (pc + 2)) := by
  intro p l e s m args below meth c ad D cA K Q L st M H locs ls C hK hN h S k
  match st, h, S with
  | .inr (t, j) :: st', h, S =>
    obtain ⟨hl, h⟩ := mv_set_at h
    refine lv_astore C.1 C.2.1 hd S.2.2.2.1.1 (Nat.lt_of_lt_of_le hl S.2.2.2.1.2) rfl (fun ls' hl' => ?_)
    exact k _ _ _ _ _ _ _ h ⟨S.1, S.2.1, S.2.2.1, S.2.2.2.1.put (v := .inr (t, j)) hl', S.2.2.2.2.1.set S.2.2.2.2.2.1.hd, S.2.2.2.2.2.1.tl, S.2.2.2.2.2.2⟩
theorem ms_iinc {i : Nat} {n : Int} (hd : decode cc pc = .ok (.iinc i n, 3)) : mv_Snd cc maxL ret own lvl pc (mo_iinc i n (pc + 3)) := by
  intro p l e s m args below meth c ad D cA K Q L st M H locs ls C hK hN h S k
  obtain ⟨v, hv, h⟩ := mv_get_at h
  rcases v with x | ⟨t, j⟩
  · obtain ⟨hr, h⟩ := h
    obtain ⟨hl, h⟩ := mv_set_at h
    obtain ⟨q, hq⟩ := List.getElem?_of_mem (mv_pr_mem.mpr ⟨_, hv, rfl⟩ : (i, mv_tr ad (.inl x)) ∈ mv_pr ad L)
    refine lv_iinc (x := Int32.ofInt x) C.1 C.2.1 hd S.2.2.2.1.1 hq (mv_add x n) (Nat.lt_of_lt_of_le hl S.2.2.2.1.2) rfl (fun ls' hl' => ?_)
    exact k _ _ _ _ _ _ _ h ⟨S.1, S.2.1, S.2.2.1, S.2.2.2.1.put (v := .inl (x + n)) hl', S.2.2.2.2.1.set hr, S.2.2.2.2.2.1, S.2.2.2.2.2.2⟩
  · exact h.elim
theorem ms_iadd (hd : decode cc pc = .ok (.iadd, 1)) : mv_Snd cc maxL ret own lvl pc (mo_iadd (pc + 1)) := by
  intro p l e s m args below meth c ad D cA K Q L st M H locs ls C hK hN h S k
  match st, h, S with
  | .inl y :: .inl x :: st', h, S =>
    refine lv_iadd C.1 C.2.1 hd ?_
    rw [mv_add]
    exact k _ _ _ _ _ _ _ h.2 ⟨S.1, S.2.1, S.2.2.1, S.2.2.2.1, S.2.2.2.2.1, S.2.2.2.2.2.1.tl.tl.cons h.1, S.2.2.2.2.2.2⟩
theorem ms_isub (hd : decode cc pc = .ok (.isub, 1)) : mv_Snd cc maxL ret own lvl pc (mo_isub (pc + 1)) := by
  intro p l e s m args below meth c ad D cA K Q L st M H locs ls C hK hN h S k
  match st, h, S with
  | .inl y :: .inl x :: st', h, S =>
    refine lv_isub C.1 C.2.1 hd ?_
    rw [mv_sub]
    exact k _ _ _ _ _ _ _ h.2 ⟨S.1, S.2.1, S.2.2.1, S.2.2.2.1, S.2.2.2.2.1, S.2.2.2.2.2.1.tl.tl.cons h.1, S.2.2.2.2.2.2⟩
theorem ms_imul (hd : decode cc pc = .ok (.imul, 1)) : mv_Snd cc maxL ret own lvl pc (mo_imul (pc + 1)) := by
  intro p l e s m args below meth c ad D cA K Q L st M H locs ls C hK hN h S k
  match st, h, S with
  | .inl y :: .inl x :: st', h, S =>
    refine lv_imul C.1 C.2.1 hd ?_
    rw [mv_mul]
    exact k _ _ _ _ _ _ _ h.2 ⟨S.1, S.2.1, S.2.2.1, S.2.2.2.1, S.2.2.2.2.1, S.2.2.2.2.2.1.tl.tl.cons h.1, S.2.2.2.2.2.2⟩
theorem ms_idiv (hd : decode cc pc = .ok (.idiv, 1)) : mv_Snd cc maxL ret own lvl pc (mo_idiv (pc + 1)) := by
  intro p l e s m args below meth c ad D cA K Q L st M H locs ls C hK hN h S k
  match st, h, S with
  | .inl y :: .inl x :: st', h, S =>
    have hy := S.2.2.2.2.2.1.hd
    have hx := S.2.2.2.2.2.1.tl.hd
    have hq : 0 ≤ x / y ∧ x / y ≤ x := ⟨Int.ediv_nonneg h.1.1 (by have := h.1.2; omega), Int.ediv_le_self y h.1.1⟩
    have hx2 : x ≤ 2147483647 := hx.2
    refine lv_idiv C.1 C.2.1 hd (fun e0 => ?_) ?_
    · have := (mv_ieq hy mv_r0).mp e0
      have := h.1.2
      omega
    · rw [mv_div ⟨h.1.1, hx.2⟩ ⟨h.1.2, hy.2⟩]
      exact k _ _ _ _ _ _ _ h.2 ⟨S.1, S.2.1, S.2.2.1, S.2.2.2.1, S.2.2.2.2.1, S.2.2.2.2.2.1.tl.tl.cons (show _ ∧ _ from ⟨by omega, by omega⟩), S.2.2.2.2.2.2⟩
theorem ms_irem (hd : decode cc pc = .ok (.irem, 1)) : mv_Snd cc maxL ret own lvl pc (mo_irem (pc + 1)) := by
  intro p l e s m args below meth c ad D cA K Q L st M H locs ls C hK hN h S k
  match st, h, S with
  | .inl y :: .inl x :: st', h, S =>
    have hy := S.2.2.2.2.2.1.hd
    have hx := S.2.2.2.2.2.1.tl.hd
    have hy2 : y ≤ 2147483647 := hy.2
    have hq : 0 ≤ x % y ∧ x % y < y := ⟨Int.emod_nonneg _ (by have := h.1.2; omega), Int.emod_lt_of_pos _ h.1.2⟩
    refine lv_irem C.1 C.2.1 hd (fun e0 => ?_) ?_
    · have := (mv_ieq hy mv_r0).mp e0
      have := h.1.2
      omega
    · rw [mv_rem ⟨h.1.1, hx.2⟩ ⟨h.1.2, hy.2⟩]
      exact k _ _ _ _ _ _ _ h.2 ⟨S.1, S.2.1, S.2.2.1, S.2.2.2.1, S.2.2.2.2.1, S.2.2.2.2.2.1.tl.tl.cons (show _ ∧ _ from ⟨by omega, by omega⟩), S.2.2.2.2.2.2⟩
theorem ms_ineg (hd : decode cc pc = .ok (.ineg, 1)) : mv_Snd cc maxL ret own lvl pc (mo_ineg (pc + 1)) := by
  intro p l e s m args below meth c ad D cA K Q L st M H locs ls C hK hN h S k
  match st, h, S with
  | .inl x :: st', h, S =>
    refine lv_ineg C.1 C.2.1 hd ?_
    rw [mv_neg]
    exact k _ _ _ _ _ _ _ h.2 ⟨S.1, S.2.1, S.2.2.1, S.2.2.2.1, S.2.2.2.2.1, S.2.2.2.2.2.1.tl.cons h.1, S.2.2.2.2.2.2⟩
theorem ms_dup (hd : decode cc pc = .ok (.dup, 1)) : mv_Snd cc maxL ret own lvl pc (mo_dup (pc + 1)) := by
  intro p l e s m args below meth c ad D cA K Q L st M H locs ls C hK hN h S k
  match st, h, S with
  | v :: st', h, S =>
    exact lv_dup C.1 C.2.1 hd (mv_tr_cat ad v) (k _ _ _ _ _ _ _ h ⟨S.1, S.2.1, S.2.2.1, S.2.2.2.1, S.2.2.2.2.1, S.2.2.2.2.2.1.cons S.2.2.2.2.2.1.hd, S.2.2.2.2.2.2⟩)
theorem ms_pop (hd : decode cc pc = .ok (.pop, 1)) : mv_Snd cc maxL ret own lvl pc (mo_pop (pc + 1)) := by
  intro p l e s m args below meth c ad D cA K Q L st M H locs ls C hK hN h S k
  match st, h, S with
  | v :: st', h, S =>
    exact lv_pop C.1 C.2.1 hd (mv_tr_cat ad v) (k _ _ _ _ _ _ _ h ⟨S.1, S.2.1, S.2.2.1, S.2.2.2.1, S.2.2.2.2.1, S.2.2.2.2.2.1.tl, S.2.2.2.2.2.2⟩)
theorem ms_dup2 (hd : decode cc pc = .ok (.dup2, 1)) : mv_Snd cc maxL ret own lvl pc (mo_dup2 (pc + 1)) := by
  intro p l e s m args below meth c ad D cA K Q L st M H locs ls C hK hN h S k
  match st, h, S with
  | v :: w :: st', h, S =>
    exact lv_dup2_11 C.1 C.2.1 hd (mv_tr_cat ad v) (mv_tr_cat ad w) (k _ _ _ _ _ _ _ h ⟨S.1, S.2.1, S.2.2.1, S.2.2.2.1, S.2.2.2.2.1, (S.2.2.2.2.2.1.cons S.2.2.2.2.2.1.tl.hd).cons S.2.2.2.2.2.1.hd, S.2.2.2.2.2.2⟩)
theorem ms_goto {off : Int} {tg : Nat} (hd : decode cc pc = .ok (.goto off, 3)) (ht : (pc : Int) + off = (tg : Int)) : mv_Snd cc maxL ret own lvl pc (mo_goto tg) := by
  intro p l e s m args below meth c ad D cA K Q L st M H locs ls C hK hN h S k
  exact lv_goto C.1 C.2.1 hd ht (k _ _ _ _ _ _ _ h S)
theorem ms_ifeq {off : Int} {tg : Nat} (hd : decode cc pc = .ok (.ifCond .eq off, 3)) (ht : (pc : Int) + off = (tg : Int)) : mv_Snd cc maxL ret own lvl pc (mo_ifeq tg (pc + 3)) := by
  intro p l e s m args below meth c ad D cA K Q L st M H locs ls C hK hN h S k
  match st, h, S with
  | .inl x :: st', h, S =>
    have hx := S.2.2.2.2.2.1.hd
    have S' : mv_St ad D cA maxL s.heap M L st' H locs ls := ⟨S.1, S.2.1, S.2.2.1, S.2.2.2.1, S.2.2.2.2.1, S.2.2.2.2.2.1.tl, S.2.2.2.2.2.2⟩
    exact lv_if_eq C.1 C.2.1 hd ht (fun q => k _ _ _ _ _ _ _ (h.1 ((mv_ieq hx mv_r0).mp q)) S') (fun q => k _ _ _ _ _ _ _ (h.2 (fun z => q ((mv_ieq hx mv_r0).mpr z))) S')
theorem ms_ifne {off : Int} {tg : Nat} (hd : decode cc pc = .ok (.ifCond .ne off, 3)) (ht : (pc : Int) + off = (tg : Int)) : mv_Snd cc maxL ret own lvl pc (mo_ifne tg (pc + 3)) := by
  intro p l e s m args below meth c ad D cA K Q L st M H locs ls C hK hN h S k
  match st, h, S with
  | .inl x :: st', h, S =>
    have hx := S.2.2.2.2.2.1.hd
    have S' : mv_St ad D cA maxL s.heap M L st' H locs ls := ⟨S.1, S.2.1, S.2.2.1, S.2.2.2.1, S.2.2.2.2.1, S.2.2.2.2.2.1.tl, S.2.2.2.2.2.2⟩
    exact lv_if_ne C.1 C.2.1 hd ht (fun q => k _ _ _ _ _ _ _ (h.1 (fun z => q ((mv_ieq hx mv_r0).mpr z))) S') (fun q => k _ _ _ _ _ _ _ (h.2 ((mv_ieq hx mv_r0).mp q)) S')
theorem ms_iflt {off : Int} {tg : Nat} (hd : decode cc pc = .ok (.ifCond .lt off, 3)) (ht : (pc : Int) + off = (tg : Int)) : mv_Snd cc maxL ret own lvl pc (mo_iflt tg (pc + 3)) := by
  intro p l e s m args below meth c ad D cA K Q L st M H locs ls C hK hN h S k
  match st, h, S with
  | .inl x :: st', h, S =>
    have hx := S.2.2.2.2.2.1.hd
    have S' : mv_St ad D cA maxL s.heap M L st' H locs ls := ⟨S.1, S.2.1, S.2.2.1, S.2.2.2.1, S.2.2.2.2.1, S.2.2.2.2.2.1.tl, S.2.2.2.2.2.2⟩
    exact lv_if_lt C.1 C.2.1 hd ht (fun q => k _ _ _ _ _ _ _ (h.1 ((mv_ilt hx mv_r0).mp q)) S') (fun q => k _ _ _ _ _ _ _ (h.2 (Int.not_lt.mp fun z => q ((mv_ilt hx mv_r0).mpr z))) S')
theorem ms_ifge {off : Int} {tg : Nat} (hd : decode cc pc = .ok (.ifCond .ge off, 3)) (ht : (pc : Int) + off = (tg : Int)) : mv_Snd cc maxL ret own lvl pc (mo_ifge tg (pc + 3)) := by
  intro p l e s m args below meth c ad D cA K Q L st M H locs ls C hK hN h S k
  match st, h, S with
  | .inl x :: st', h, S =>
    have hx := S.2.2.2.2.2.1.hd
    have S' : mv_St ad D cA maxL s.heap M L st' H locs ls := ⟨S.1, S.2.1, S.2.2.1, S.2.2.2.1, S.2.2.2.2.1, S.2.2.2.2.2.1.tl, S.2.2.2.2.2.2⟩
    exact lv_if_ge C.1 C.2.1 hd ht (fun q => k _ _ _ _ _ _ _ (h.1 ((mv_ile mv_r0 hx).mp q)) S') (fun q => k _ _ _ _ _ _ _ (h.2 (Int.not_le.mp fun z => q ((mv_ile mv_r0 hx).mpr z))) S')
theorem ms_ifle {off : Int} {tg : Nat} (hd : decode cc pc = .ok (.ifCond .le off, 3)) (ht : (pc : Int) + off = (tg : Int)) : mv_Snd cc maxL ret own lvl pc (mo_ifle tg (pc + 3)) := by
  intro p l e s m args below meth c ad D cA K Q L st M H locs ls C hK hN h S k
  match st, h, S with
  | .inl x :: st', h, S =>
    have hx := S.2.2.2.2.2.1.hd
    have S' : mv_St ad D cA maxL s.heap M L st' H locs ls := ⟨S.1, S.2.1, S.2.2.1, S.2.2.2.1, S.2.2.2.2.1, S.2.2.2.2.2.1.tl, S.2.2.2.2.2.2⟩
    exact lv_if_le C.1 C.2.1 hd ht (fun q => k _ _ _ _ _ _ _ (h.1 ((mv_ile hx mv_r0).mp q)) S') (fun q => k _ _ _ _ _ _ _ (h.2 (Int.not_le.mp fun z => q ((mv_ile hx mv_r0).mpr z))) S')
theorem ms_ceq {off : Int} {tg : Nat} (hd : decode cc pc = .ok (.if_icmp .eq off, 3)) (ht : (pc : Int) + off = (tg : Int)) : mv_Snd cc maxL ret own lvl pc (mo_ceq tg (pc + 3)) := by
  intro p l e s m args below meth c ad D cA K Q L st M H locs ls C hK hN h S k
  match st, h, S with
  | .inl y :: .inl x :: st', h, S =>
    have hy := S.2.2.2.2.2.1.hd
    have hx := S.2.2.2.2.2.1.tl.hd
    have S' : mv_St ad D cA maxL s.heap M L st' H locs ls := ⟨S.1, S.2.1, S.2.2.1, S.2.2.2.1, S.2.2.2.2.1, S.2.2.2.2.2.1.tl.tl, S.2.2.2.2.2.2⟩
    exact lv_icmp_eq C.1 C.2.1 hd ht (fun q => k _ _ _ _ _ _ _ (h.1 ((mv_ieq hx hy).mp q)) S') (fun q => k _ _ _ _ _ _ _ (h.2 (fun z => q ((mv_ieq hx hy).mpr z))) S')
theorem ms_cne {off : Int} {tg : Nat} (hd : decode cc pc = .ok (.if_icmp .ne off, 3)) (ht : (pc : Int) + off = (tg : Int)) : mv_Snd cc maxL ret own lvl pc (mo_cne tg (pc + 3)) := by
  intro p l e s m args below meth c ad D cA K Q L st M H locs ls C hK hN h S k
  match st, h, S with
  | .inl y :: .inl x :: st', h, S =>
    have hy := S.2.2.2.2.2.1.hd
    have hx := S.2.2.2.2.2.1.tl.hd
    have S' : mv_St ad D cA maxL s.heap M L st' H locs ls := ⟨S.1, S.2.1, S.2.2.1, S.2.2.2.1, S.2.2.2.2.1, S.2.2.2.2.2.1.tl.tl, S.2.2.2.2.2.2⟩
    exact lv_icmp_ne C.1 C.2.1 hd ht (fun q => k _ _ _ _ _ _ _ (h.1 (fun z => q ((mv_ieq hx hy).mpr z))) S') (fun q => k _ _ _ _ _ _ _ (h.2 ((mv_ieq hx hy).mp q)) S')
theorem ms_clt {off : Int} {tg : Nat} (hd : decode cc pc = .ok (.if_icmp .lt off, 3)) (ht : (pc : Int) + off = (tg : Int)) : mv_Snd cc maxL ret own lvl pc (mo_clt tg (pc + 3)) := by
  intro p l e s m args below meth c ad D cA K Q L st M H locs ls C hK hN h S k
  match st, h, S with
  | .inl y :: .inl x :: st', h, S =>
    have hy := S.2.2.2.2.2.1.hd
    have hx := S.2.2.2.2.2.1.tl.hd
    have S' : mv_St ad D cA maxL s.heap M L st' H locs ls := ⟨S.1, S.2.1, S.2.2.1, S.2.2.2.1, S.2.2.2.2.1, S.2.2.2.2.2.1.tl.tl, S.2.2.2.2.2.2⟩
    exact lv_icmp_lt C.1 C.2.1 hd ht (fun q => k _ _ _ _ _ _ _ (h.1 ((mv_ilt hx hy).mp q)) S') (fun q => k _ _ _ _ _ _ _ (h.2 (Int.not_lt.mp fun z => q ((mv_ilt hx hy).mpr z))) S')
theorem ms_cge {off : Int} {tg : Nat} (hd : decode cc pc = .ok (.if_icmp .ge off, 3)) (ht : (pc : Int) + off = (tg : Int)) : mv_Snd cc maxL ret own lvl pc (mo_cge tg (pc + 3)) := by
  intro p l e s m args below meth c ad D cA K Q L st M H locs ls C hK hN h S k
  match st, h, S with
  | .inl y :: .inl x :: st', h, S =>
    have hy := S.2.2.2.2.2.1.hd
    have hx := S.2.2.2.2.2.1.tl.hd
    have S' : mv_St ad D cA maxL s.heap M L st' H locs ls := ⟨S.1, S.2.1, S.2.2.1, S.2.2.2.1, S.2.2.2.2.1, S.2.2.2.2.2.1.tl.tl, S.2.2.2.2.2.2⟩
    exact lv_icmp_ge C.1 C.2.1 hd ht (fun q => k _ _ _ _ _ _ _ (h.1 ((mv_ile hy hx).mp q)) S') (fun q => k _ _ _ _ _ _ _ (h.2 (Int.not_le.mp fun z => q ((mv_ile hy hx).mpr z))) S')
theorem ms_cgt {off : Int} {tg : Nat} (hd : decode cc pc = .ok (.if_icmp .gt off, 3)) (ht : (pc : Int) + off = (tg : Int)) : mv_Snd cc maxL ret own lvl pc (mo_cgt tg (pc + 3)) := by
  intro p l e s m args below meth c ad D cA K Q L st M H locs ls C hK hN h S k
  match st, h, S with
  | .inl y :: .inl x :: st', h, S =>
    have hy := S.2.2.2.2.2.1.hd
    have hx := S.2.2.2.2.2.1.tl.hd
    have S' : mv_St ad D cA maxL s.heap M L st' H locs ls := ⟨S.1, S.2.1, S.2.2.1, S.2.2.2.1, S.2.2.2.2.1, S.2.2.2.2.2.1.tl.tl, S.2.2.2.2.2.2⟩
    exact lv_icmp_gt C.1 C.2.1 hd ht (fun q => k _ _ _ _ _ _ _ (h.1 ((mv_ilt hy hx).mp q)) S') (fun q => k _ _ _ _ _ _ _ (h.2 (Int.not_lt.mp fun z => q ((mv_ilt hy hx).mpr z))) S')
theorem ms_cle {off : Int} {tg : Nat} (hd : decode cc pc = .ok (.if_icmp .le off, 3)) (ht : (pc : Int) + off = (tg : Int)) : mv_Snd cc maxL ret own lvl pc (mo_cle tg (pc + 3)) := by
  intro p l e s m args below meth c ad D cA K Q L st M H locs ls C hK hN h S k
  match st, h, S with
  | .inl y :: .inl x :: st', h, S =>
    have hy := S.2.2.2.2.2.1.hd
    have hx := S.2.2.2.2.2.1.tl.hd
    have S' : mv_St ad D cA maxL s.heap M L st' H locs ls := ⟨S.1, S.2.1, S.2.2.1, S.2.2.2.1, S.2.2.2.2.1, S.2.2.2.2.2.1.tl.tl, S.2.2.2.2.2.2⟩
    exact lv_icmp_le C.1 C.2.1 hd ht (fun q => k _ _ _ _ _ _ _ (h.1 ((mv_ile hx hy).mp q)) S') (fun q => k _ _ _ _ _ _ _ (h.2 (Int.not_le.mp fun z => q ((mv_ile hx hy).mpr z))) S')
theorem mv_tsw_at : ∀ {lo : Int} {ts : List Nat} {x : Int} {k : Nat → Prop} {t : Nat}, mv_tsw lo ts x k → lo ≤ x → ts[(x - lo).toNat]? = some t → k t
  | lo, [], x, k, t, _, _, ht => by simp at ht
  | lo, t0 :: ts, x, k, t, h, hl, ht => by
    by_cases h0 : x = lo
    · subst h0
      simp at ht
      subst ht
      exact h.1 rfl
    · have e : (x - lo).toNat = (x - (lo + 1)).toNat + 1 := by omega
      rw [e, List.getElem?_cons_succ] at ht
      exact mv_tsw_at h.2 (by omega) ht
theorem ms_tsw {df lo hi : Int} {offs : Array Int} {len dfT : Nat} {tgs : List Nat} (hd : decode cc pc = .ok (.tableswitch df lo hi offs, len)) (hdf : (pc : Int) + df = (dfT : Int)) (hhi : hi = lo + (tgs.length : Int) - 1) (hlen : offs.size = tgs.length)
    (hto : offs.toList.map (fun o => (pc : Int) + o) = tgs.map (fun t : Nat => (t : Int))) : mv_Snd cc maxL ret own lvl pc (mo_tsw lo tgs dfT) := by
  intro p l e s m args below meth c ad D cA K Q L st M H locs ls C hK hN h S k
  match st, h, S with
  | .inl x :: st', h, S =>
    have hx : (Int32.ofInt x).toInt = x := mv_toInt S.2.2.2.2.2.1.hd
    have S' : mv_St ad D cA maxL s.heap M L st' H locs ls := ⟨S.1, S.2.1, S.2.2.1, S.2.2.2.1, S.2.2.2.2.1, S.2.2.2.2.2.1.tl, S.2.2.2.2.2.2⟩
    by_cases ho : x < lo ∨ lo + (tgs.length : Int) ≤ x
    · exact lv_tableOut C.1 C.2.1 hd (by rw [hx]; omega) hdf (k _ _ _ _ _ _ _ (h.1 ho) S')
    · have hlt : (x - lo).toNat < tgs.length := by omega
      have hlo : (x - lo).toNat < offs.toList.length := by simp; omega
      have hmap := congrArg (fun l => l[(x - lo).toNat]?) hto
      simp only [List.getElem?_map, List.getElem?_eq_getElem hlo, List.getElem?_eq_getElem hlt, Option.map_some, Option.some.injEq] at hmap
      refine lv_tableIn C.1 C.2.1 (tgt := tgs[(x - lo).toNat]) (off := offs.toList[(x - lo).toNat]) hd (by rw [hx]; omega) (by rw [hx]; omega) (by rw [hx, ← Array.getElem?_toList]; exact List.getElem?_eq_getElem hlo) hmap ?_
      exact k _ _ _ _ _ _ _ (mv_tsw_at h.2 (by omega) (List.getElem?_eq_getElem hlt)) S'
theorem ms_iret (hd : decode cc pc = .ok (.ireturn, 1)) : mv_Snd cc maxL (some .int) own lvl pc mo_iret := by
  intro p l e s m args below meth c ad D cA K Q L st M H locs ls C hK hN h S k
  match st, h, S with
  | [.inl x], h, S =>
    exact W.iret C.1 C.2.1 C.2.2.2.2.2.1 (fun t ht hW => ⟨⟨some (.inl x), M, rfl, h, fun w hw => by cases hw; exact S.2.2.2.2.2.1.hd, S.2.2.2.2.2.2, by rw [ht]; exact S.1⟩, S.2.2.1.F ht⟩) S.2.2.1.2.2 hd C.2.2.2.2.2.2
theorem ms_zret (hd : decode cc pc = .ok (.ireturn, 1)) : mv_Snd cc maxL (some .boolean) own lvl pc mo_zret := by
  intro p l e s m args below meth c ad D cA K Q L st M H locs ls C hK hN h S k
  match st, h, S with
  | [.inl x], h, S =>
    exact W.zret C.1 C.2.1 C.2.2.2.2.2.1 (by rcases h.1 with rfl | rfl <;> rfl) (fun t ht hW => ⟨⟨some (.inl x), M, rfl, h.2, fun w hw => by cases hw; exact S.2.2.2.2.2.1.hd, S.2.2.2.2.2.2, by rw [ht]; exact S.1⟩, S.2.2.1.F ht⟩) S.2.2.1.2.2 hd C.2.2.2.2.2.2
theorem ms_aret {n : String} (hd : decode cc pc = .ok (.areturn, 1)) : mv_Snd cc maxL (some (.object n)) own lvl pc mo_aret := by
  intro p l e s m args below meth c ad D cA K Q L st M H locs ls C hK hN h S k
  match st, h, S with
  | [.inr (t, j)], h, S =>
    exact W.aret C.1 C.2.1 C.2.2.2.2.2.1 (Or.inl ⟨n, rfl⟩) (Or.inr ⟨_, rfl⟩) (fun t' ht hW => ⟨⟨some (.inr (t, j)), M, rfl, h, fun w hw => by cases hw; exact S.2.2.2.2.2.1.hd, S.2.2.2.2.2.2, by rw [ht]; exact S.1⟩, S.2.2.1.F ht⟩) S.2.2.1.2.2 hd C.2.2.2.2.2.2
theorem ms_vret (hd : decode cc pc = .ok (.return_, 1)) : mv_Snd cc maxL none own lvl pc mo_vret := by
  intro p l e s m args below meth c ad D cA K Q L st M H locs ls C hK hN h S k
  match st, h, S with
  | [], h, S =>
    exact W.vret C.1 C.2.1 C.2.2.2.2.2.1 (fun t ht hW => ⟨⟨none, M, rfl, h, fun w hw => (by cases hw), S.2.2.2.2.2.2, by rw [ht]; exact S.1⟩, S.2.2.1.F ht⟩) S.2.2.1.2.2 hd C.2.2.2.2.2.2
end MVS
end
section
/-! The instructions that read and write the world, and the calls. -/
def mv_CI (C : Nat) (R : String) (T : u_T) (N : Nat) (ty : Nat → FieldType) : Prop :=
  C < 12 ∧ vwCl[C]? = some (R, T, N) ∧ (∀ w ∈ u_ws R T N, w ∈ mv_tb) ∧ (∀ k, k < N → parseFieldDescriptor (T k).2.2.1 = some (ty k)) ∧ (∀ a, a < N → ∀ b, b < N → a ≠ b → (T a).2.1 ≠ (T b).2.1) ∧ (mv_fd C).length = N
/-- the arrays of whole numbers, and their lengths -/
def mv_itab : List (Nat × Int) := [(14, 3), (15, 8), (20, 360), (22, 200), (23, 3), (24, 407), (28, 360), (29, 1200), (30, 6), (31, 6), (32, 6), (26, 2035), (25, 407), (27, 140), (19, 140)]
def mv_lk : List (Nat × Int) → Nat → (Int → Prop) → Prop
  | [], _, _ => False
  | (a, n) :: l, t, k => cond (Nat.beq t a) (k n) (mv_lk l t k)
theorem mv_cond {b : Bool} {p : Prop} (h : cond b p False) : b = true ∧ p := by
  cases b
  · exact h.elim
  · exact ⟨rfl, h⟩
theorem mv_cond2 {b : Bool} {p q : Prop} (h : cond b p q) : (b = true ∧ p) ∨ q := by
  cases b
  · exact Or.inr h
  · exact Or.inl ⟨rfl, h⟩
theorem mv_lk_at : ∀ {l : List (Nat × Int)} {t : Nat} {k : Int → Prop}, mv_lk l t k → ∃ n, (t, n) ∈ l ∧ k n
  | [], _, _, h => h.elim
  | (a, n) :: l, t, k, h => by
    rcases mv_cond2 h with ⟨hb, hk⟩ | hk
    · have hb := Nat.eq_of_beq_eq_true hb
      rw [hb]
      exact ⟨n, List.mem_cons_self, hk⟩
    · obtain ⟨n', h1, h2⟩ := mv_lk_at hk
      exact ⟨n', List.mem_cons_of_mem _ h1, h2⟩
theorem mv_itab_ok : ∀ x ∈ mv_itab, ¬ x.1 < 12 ∧ x.1 < 33 ∧ mv_rt x.1 = false ∧ mv_ac x.1 = 0 ∧ (mv_len x.1 : Int) = x.2 := by decide +kernel
theorem mv_lkI {t : Nat} {k : Int → Prop} (h : mv_lk mv_itab t k) : ¬ t < 12 ∧ t < 33 ∧ mv_rt t = false ∧ mv_ac t = 0 ∧ k (mv_len t : Int) := by
  obtain ⟨n, h1, h2⟩ := mv_lk_at h
  obtain ⟨a, b, c, d, e⟩ := mv_itab_ok _ h1
  exact ⟨a, b, c, d, by rw [e]; exact h2⟩
def mo_getr (C t2 : Nat) (g : Nat → Nat) (nx : Nat) : mv_O := fun K _ L st M => match st with
  | .inr (t, j) :: st' => cond (Nat.beq t C) (K nx L (.inr (t2, g j) :: st') M) False
  | _ => False
def mo_geti (C k nx : Nat) : mv_O := fun K _ L st M => match st with
  | .inr (t, j) :: st' => cond (Nat.beq t C) (K nx L (.inl (M.1 C j k) :: st') M) False
  | _ => False
def mo_puti (C k nx : Nat) : mv_O := fun K _ L st M => match st with
  | .inl x :: .inr (t, j) :: st' => cond (Nat.beq t C) (K nx L st' (mv_up M.1 C j k x, M.2)) False
  | _ => False
def mo_putz (C k nx : Nat) : mv_O := fun K _ L st M => match st with
  | .inl x :: .inr (t, j) :: st' => cond (Nat.beq t C) ((x = 0 ∨ x = 1) ∧ K nx L st' (mv_up M.1 C j k x, M.2)) False
  | _ => False
def mo_iald (nx : Nat) : mv_O := fun K _ L st M => match st with
  | .inl i :: .inr (t, j) :: st' => mv_lk mv_itab t (fun n => (0 ≤ i ∧ i < n) ∧ K nx L (.inl (M.1 t j i.toNat) :: st') M)
  | _ => False
def mo_iast (nx : Nat) : mv_O := fun K _ L st M => match st with
  | .inl x :: .inl i :: .inr (t, j) :: st' => mv_lk mv_itab t (fun n => (0 ≤ i ∧ i < n) ∧ K nx L st' (mv_up M.1 t j i.toNat x, M.2))
  | _ => False
def mo_zald (nx : Nat) : mv_O := fun K _ L st M => match st with
  | .inl i :: .inr (t, j) :: st' => cond (Nat.beq t 17) ((0 ≤ i ∧ i < 2) ∧ K nx L (.inl (M.1 17 j i.toNat) :: st') M) False
  | _ => False
def mo_zast (nx : Nat) : mv_O := fun K _ L st M => match st with
  | .inl x :: .inl i :: .inr (t, j) :: st' => cond (Nat.beq t 17) ((0 ≤ i ∧ i < 2) ∧ (x = 0 ∨ x = 1) ∧ K nx L st' (mv_up M.1 17 j i.toNat x, M.2)) False
  | _ => False
def mo_alen (nx : Nat) : mv_O := fun K _ L st M => match st with
  | .inr (t, _) :: st' => mv_lk mv_itab t (fun n => K nx L (.inl n :: st') M)
  | _ => False
def mo_aald (nx : Nat) : mv_O := fun K _ L st M => match st with
  | .inl i :: .inr (t, j) :: st' =>
    cond (Nat.beq t 12) ((0 ≤ i ∧ i < 6) ∧ K nx L (.inr (0, 6 * j + i.toNat) :: st') M)
      (cond (Nat.beq t 13) ((0 ≤ i ∧ i < 8) ∧ K nx L (.inr (5, 8 * j + i.toNat) :: st') M)
        (cond (Nat.beq t 21) ((0 ≤ i ∧ i < 6) ∧ K nx L (.inr (2, 6 * j + i.toNat) :: st') M)
          (cond (Nat.beq t 16) ((0 ≤ i ∧ i < 2) ∧ K nx L (.inr (1, 3 * j + 1 + i.toNat) :: st') M)
            (cond (Nat.beq t 18) ((0 ≤ i ∧ i < 5) ∧ K nx L (.inr (7, M.2 i.toNat) :: st') M) False))))
  | _ => False
def mo_aast (nx : Nat) : mv_O := fun K _ L st M => match st with
  | .inr (t2, v) :: .inl i :: .inr (t, _) :: st' => cond (Nat.beq t2 7) (cond (Nat.beq t 18) ((0 ≤ i ∧ i < 5) ∧ K nx L st' (M.1, mv_us M.2 i.toNat v)) False) False
  | _ => False
def mv_cp (f : Nat → Nat → Nat → Int) (t1 j1 sp t2 j2 dp n : Nat) : Nat → Nat → Nat → Int := fun a b c => if a = t2 ∧ b = j2 ∧ dp ≤ c ∧ c < dp + n then f t1 j1 (sp + (c - dp)) else f a b c
def mo_copy (nx : Nat) : mv_O := fun K _ L st M => match st with
  | .inl n :: .inl dp :: .inr (t2, j2) :: .inl sp :: [.inr (t1, j1)] => mv_lk mv_itab t1 (fun n1 => mv_lk mv_itab t2 (fun n2 =>
      (0 ≤ sp ∧ 0 ≤ dp ∧ 0 ≤ n ∧ sp + n ≤ n1 ∧ dp + n ≤ n2) ∧ K nx L [] (mv_cp M.1 t1 j1 sp.toNat t2 j2 dp.toNat n.toNat, M.2)))
  | _ => False
theorem mv_vin {i : Int} {n : Nat} (hr : -2147483648 ≤ i ∧ i ≤ 2147483647) (h : 0 ≤ i ∧ i < (n : Int)) : vp_in (Int32.ofInt i) n := vp_in_iff.mpr (by rw [mv_toInt hr]; exact h)
theorem mv_clamp {i : Int} (hr : -2147483648 ≤ i ∧ i ≤ 2147483647) : (Int32.ofInt i).toNatClampNeg = i.toNat := by
  show (Int32.ofInt i).toInt.toNat = i.toNat
  rw [mv_toInt hr]
theorem mv_Mok.up {M : mv_M} (h : mv_Mok M) {t j k : Nat} {x : Int} (hx : -2147483648 ≤ x ∧ x ≤ 2147483647) : mv_Mok (mv_up M.1 t j k x, M.2) := by
  refine ⟨fun a b c => ?_, h.2⟩
  show -2147483648 ≤ (if a = t ∧ b = j ∧ c = k then x else M.1 a b c) ∧ (if a = t ∧ b = j ∧ c = k then x else M.1 a b c) ≤ 2147483647
  by_cases q : a = t ∧ b = j ∧ c = k
  · rw [if_pos q]; exact hx
  · rw [if_neg q]; exact h.1 a b c
theorem mv_Mok.cp {M : mv_M} (h : mv_Mok M) {t1 j1 sp t2 j2 dp n : Nat} : mv_Mok (mv_cp M.1 t1 j1 sp t2 j2 dp n, M.2) := by
  refine ⟨fun a b c => ?_, h.2⟩
  show -2147483648 ≤ (if a = t2 ∧ b = j2 ∧ dp ≤ c ∧ c < dp + n then M.1 t1 j1 (sp + (c - dp)) else M.1 a b c) ∧ (if a = t2 ∧ b = j2 ∧ dp ≤ c ∧ c < dp + n then M.1 t1 j1 (sp + (c - dp)) else M.1 a b c) ≤ 2147483647
  by_cases q : a = t2 ∧ b = j2 ∧ dp ≤ c ∧ c < dp + n
  · rw [if_pos q]; exact h.1 _ _ _
  · rw [if_neg q]; exact h.1 a b c
section MVH
variable {cc : ByteArray} {maxL : Nat} {ret : Option FieldType} {own : String} {lvl pc : Nat}
theorem ms_getr {idx C k N t2 a b : Nat} {R : String} {T : u_T} {ty : Nat → FieldType} {g : Nat → Nat} (hd : decode cc pc = .ok (.getfield idx, 3)) (hI : mv_CI C R T N ty) (hk : k < N) (hf : (mv_fd C)[k]? = some (some (t2, a, b))) (hg : ∀ j, g j = a * j + b)
    (hw : Cond.fieldLink own idx (T k).1 (T k).2.1 (T k).2.2.1 ∈ mv_tb) (hc : ∀ j, j < mv_cnt C → a * j + b < mv_cnt t2) (ht2 : t2 < 33) : mv_Snd cc maxL ret own lvl pc (mo_getr C t2 g (pc + 3)) := by
  intro p l e s m args below meth c ad D cA K Q L st M H locs ls X hK hN h S kk
  match st, h, S with
  | .inr (t, j) :: st', hh, SS =>
    dsimp only [mo_getr] at hh
    replace hh := mv_cond hh
    have hb := hh.1
    replace hh := hh.2
    have hb := Nat.eq_of_beq_eq_true hb
    subst hb
    obtain ⟨hj1, hj2⟩ := SS.2.2.2.2.2.1.hd
    obtain ⟨q0, hq, -⟩ := mv_ws_get SS.2.1 (mv_IX_mem hj1 hj2)
    rw [mv_cell_obj hI.1] at hq
    refine va_get X.1 X.2.1 X.2.2.2.2.1 hI.2.2.1 X.2.2.2.1 hK SS.1 q0 hq hI.2.1 k hk (X.2.2.2.2.1 _ hw) (fun _ z => z) (mv_fs_at hf) hd ?_
    rw [show mv_fv ad M t j k (some (t2, a, b)) = mv_tr ad (.inr (t2, g j)) from by rw [hg]; rfl]
    exact kk _ _ (.inr (t2, g j) :: st') _ _ _ _ hh ⟨SS.1, SS.2.1, SS.2.2.1, SS.2.2.2.1, SS.2.2.2.2.1, SS.2.2.2.2.2.1.tl.cons (show _ ∧ _ from ⟨ht2, by rw [hg]; exact hc j hj2⟩), SS.2.2.2.2.2.2⟩
theorem ms_geti {idx C k N : Nat} {R : String} {T : u_T} {ty : Nat → FieldType} (hd : decode cc pc = .ok (.getfield idx, 3)) (hI : mv_CI C R T N ty) (hk : k < N) (hf : (mv_fd C)[k]? = some none)
    (hw : Cond.fieldLink own idx (T k).1 (T k).2.1 (T k).2.2.1 ∈ mv_tb) : mv_Snd cc maxL ret own lvl pc (mo_geti C k (pc + 3)) := by
  intro p l e s m args below meth c ad D cA K Q L st M H locs ls X hK hN h S kk
  match st, h, S with
  | .inr (t, j) :: st', hh, SS =>
    dsimp only [mo_geti] at hh
    replace hh := mv_cond hh
    have hb := hh.1
    replace hh := hh.2
    have hb := Nat.eq_of_beq_eq_true hb
    subst hb
    obtain ⟨hj1, hj2⟩ := SS.2.2.2.2.2.1.hd
    obtain ⟨q0, hq, -⟩ := mv_ws_get SS.2.1 (mv_IX_mem hj1 hj2)
    rw [mv_cell_obj hI.1] at hq
    refine va_get X.1 X.2.1 X.2.2.2.2.1 hI.2.2.1 X.2.2.2.1 hK SS.1 q0 hq hI.2.1 k hk (X.2.2.2.2.1 _ hw) (fun _ z => z) (mv_fs_at hf) hd ?_
    exact kk _ _ (.inl (M.1 t j k) :: st') _ _ _ _ hh ⟨SS.1, SS.2.1, SS.2.2.1, SS.2.2.2.1, SS.2.2.2.2.1, SS.2.2.2.2.2.1.tl.cons (SS.2.2.2.2.2.2.1 t j k), SS.2.2.2.2.2.2⟩
theorem ms_puti {idx C k N : Nat} {R : String} {T : u_T} {ty : Nat → FieldType} (hd : decode cc pc = .ok (.putfield idx, 3)) (hI : mv_CI C R T N ty) (hk : k < N) (hf : (mv_fd C)[k]? = some none)
    (hw : Cond.fieldLink own idx (T k).1 (T k).2.1 (T k).2.2.1 ∈ mv_tb) (hfin : (T k).2.2.2 = false) (hty : parseFieldDescriptor (T k).2.2.1 = some .int) : mv_Snd cc maxL ret own lvl pc (mo_puti C k (pc + 3)) := by
  intro p l e s m args below meth c ad D cA K Q L st M H locs ls X hK hN h S kk
  match st, h, S with
  | .inl x :: .inr (t, j) :: st', hh, SS =>
    dsimp only [mo_puti] at hh
    replace hh := mv_cond hh
    have hb := hh.1
    replace hh := hh.2
    have hb := Nat.eq_of_beq_eq_true hb
    subst hb
    obtain ⟨hj1, hj2⟩ := SS.2.2.2.2.2.1.tl.hd
    obtain ⟨q0, hq, hset⟩ := mv_ws_get SS.2.1 (mv_IX_mem hj1 hj2)
    have hset := hset (mv_up M.1 t j k x, M.2) (fun _ _ _ z => mv_cell_up z)
    rw [mv_cell_obj hI.1, ← mv_fs_put hf] at hset
    rw [mv_cell_obj hI.1] at hq
    refine va_put X.1 X.2.1 X.2.2.2.2.1 hI.2.2.1 ty hI.2.2.2.1 hI.2.2.2.2.1 X.2.2.2.1 hK SS.1 SS.2.1 SS.2.2.1 q0 hq hI.2.1 k hk (X.2.2.2.2.1 _ hw) (fun _ z => z) hfin hty (v := .int (Int32.ofInt x)) rfl rfl (by rw [mv_fs_len]; exact (List.getElem?_eq_some_iff.mp hf).1) hd (fun H1 locs1 hP1 hD1 hS1 => ?_)
    rw [hset] at hP1 hD1
    exact kk _ _ st' _ _ _ _ hh ⟨hP1, hD1, hS1, SS.2.2.2.1, SS.2.2.2.2.1, SS.2.2.2.2.2.1.tl.tl, SS.2.2.2.2.2.2.up SS.2.2.2.2.2.1.hd⟩
theorem ms_putz {idx C k N : Nat} {R : String} {T : u_T} {ty : Nat → FieldType} (hd : decode cc pc = .ok (.putfield idx, 3)) (hI : mv_CI C R T N ty) (hk : k < N) (hf : (mv_fd C)[k]? = some none)
    (hw : Cond.fieldLink own idx (T k).1 (T k).2.1 (T k).2.2.1 ∈ mv_tb) (hfin : (T k).2.2.2 = false) (hty : parseFieldDescriptor (T k).2.2.1 = some .boolean) : mv_Snd cc maxL ret own lvl pc (mo_putz C k (pc + 3)) := by
  intro p l e s m args below meth c ad D cA K Q L st M H locs ls X hK hN h S kk
  match st, h, S with
  | .inl x :: .inr (t, j) :: st', hh, SS =>
    dsimp only [mo_putz] at hh
    replace hh := mv_cond hh
    have hb := hh.1
    have hx := hh.2.1
    replace hh := hh.2.2
    have hb := Nat.eq_of_beq_eq_true hb
    subst hb
    obtain ⟨hj1, hj2⟩ := SS.2.2.2.2.2.1.tl.hd
    obtain ⟨q0, hq, hset⟩ := mv_ws_get SS.2.1 (mv_IX_mem hj1 hj2)
    have hset := hset (mv_up M.1 t j k x, M.2) (fun _ _ _ z => mv_cell_up z)
    rw [mv_cell_obj hI.1, ← mv_fs_put hf] at hset
    rw [mv_cell_obj hI.1] at hq
    refine va_put X.1 X.2.1 X.2.2.2.2.1 hI.2.2.1 ty hI.2.2.2.1 hI.2.2.2.2.1 X.2.2.2.1 hK SS.1 SS.2.1 SS.2.2.1 q0 hq hI.2.1 k hk (X.2.2.2.2.1 _ hw) (fun _ z => z) hfin hty (v := .int (Int32.ofInt x)) (by rcases hx with rfl | rfl <;> rfl) (by rcases hx with rfl | rfl <;> rfl) (by rw [mv_fs_len]; exact (List.getElem?_eq_some_iff.mp hf).1) hd (fun H1 locs1 hP1 hD1 hS1 => ?_)
    rw [hset] at hP1 hD1
    exact kk _ _ st' _ _ _ _ hh ⟨hP1, hD1, hS1, SS.2.2.2.1, SS.2.2.2.2.1, SS.2.2.2.2.2.1.tl.tl, SS.2.2.2.2.2.2.up SS.2.2.2.2.2.1.hd⟩
theorem mv_arr_up {M : mv_M} {t j i : Nat} {x : Int} : upd (fun q => Int32.ofInt (M.1 t j q)) i (Int32.ofInt x) = fun q => Int32.ofInt (mv_up M.1 t j i x t j q) := by
  funext q
  by_cases hq : q = i
  · subst hq; simp [upd, mv_up]
  · simp [upd, mv_up, hq]
theorem ms_iald (hd : decode cc pc = .ok (.iaload, 1)) : mv_Snd cc maxL ret own lvl pc (mo_iald (pc + 1)) := by
  intro p l e s m args below meth c ad D cA K Q L st M H locs ls X hK hN h S kk
  match st, h, S with
  | .inl i :: .inr (t, j) :: st', hh, SS =>
    dsimp only [mo_iald] at hh
    obtain ⟨h12, h33, hrt, hac, hin, hh⟩ := mv_lkI hh
    obtain ⟨hj1, hj2⟩ := SS.2.2.2.2.2.1.tl.hd
    obtain ⟨q0, hq, -⟩ := mv_ws_get SS.2.1 (mv_IX_mem hj1 hj2)
    rw [mv_cell_int h12 hrt, hac] at hq
    refine va_iald X.1 X.2.1 hK SS.1 q0 0 hq (mv_tys_at cA (by omega)) (mv_vin SS.2.2.2.2.2.1.hd hin) hd ?_
    rw [mv_clamp SS.2.2.2.2.2.1.hd]
    exact kk _ _ (.inl (M.1 t j i.toNat) :: st') _ _ _ _ hh ⟨SS.1, SS.2.1, SS.2.2.1, SS.2.2.2.1, SS.2.2.2.2.1, SS.2.2.2.2.2.1.tl.tl.cons (SS.2.2.2.2.2.2.1 t j _), SS.2.2.2.2.2.2⟩
theorem ms_iast (hd : decode cc pc = .ok (.iastore, 1)) : mv_Snd cc maxL ret own lvl pc (mo_iast (pc + 1)) := by
  intro p l e s m args below meth c ad D cA K Q L st M H locs ls X hK hN h S kk
  match st, h, S with
  | .inl x :: .inl i :: .inr (t, j) :: st', hh, SS =>
    dsimp only [mo_iast] at hh
    obtain ⟨h12, h33, hrt, hac, hin, hh⟩ := mv_lkI hh
    obtain ⟨hj1, hj2⟩ := SS.2.2.2.2.2.1.tl.tl.hd
    obtain ⟨q0, hq, hset⟩ := mv_ws_get SS.2.1 (mv_IX_mem hj1 hj2)
    have hset := hset (mv_up M.1 t j i.toNat x, M.2) (fun _ _ _ z => mv_cell_up z)
    rw [mv_cell_int h12 hrt, hac, ← mv_arr_up] at hset
    rw [mv_cell_int h12 hrt, hac] at hq
    refine va_iast X.1 X.2.1 hK SS.1 SS.2.1 SS.2.2.1 q0 0 hq (mv_tys_at cA (by omega)) (mv_vin SS.2.2.2.2.2.1.tl.hd hin) hd (fun H1 locs1 hP1 hD1 hS1 => ?_)
    rw [mv_clamp SS.2.2.2.2.2.1.tl.hd, hset] at hP1 hD1
    exact kk _ _ st' _ _ _ _ hh ⟨hP1, hD1, hS1, SS.2.2.2.1, SS.2.2.2.2.1, SS.2.2.2.2.2.1.tl.tl.tl, SS.2.2.2.2.2.2.up SS.2.2.2.2.2.1.hd⟩
theorem ms_zald (hd : decode cc pc = .ok (.baload, 1)) : mv_Snd cc maxL ret own lvl pc (mo_zald (pc + 1)) := by
  intro p l e s m args below meth c ad D cA K Q L st M H locs ls X hK hN h S kk
  match st, h, S with
  | .inl i :: .inr (t, j) :: st', hh, SS =>
    dsimp only [mo_zald] at hh
    replace hh := mv_cond hh
    have hb := hh.1
    have hin := hh.2.1
    replace hh := hh.2.2
    have hb := Nat.eq_of_beq_eq_true hb
    subst hb
    obtain ⟨hj1, hj2⟩ := SS.2.2.2.2.2.1.tl.hd
    obtain ⟨q0, hq, -⟩ := mv_ws_get SS.2.1 (mv_IX_mem hj1 hj2)
    rw [mv_cell_int (by decide) (by decide)] at hq
    refine va_zald X.1 X.2.1 hK SS.1 q0 1 hq (mv_tys_at cA (by omega)) (mv_vin SS.2.2.2.2.2.1.hd hin) hd ?_
    rw [mv_clamp SS.2.2.2.2.2.1.hd]
    exact kk _ _ (.inl (M.1 17 j i.toNat) :: st') _ _ _ _ hh ⟨SS.1, SS.2.1, SS.2.2.1, SS.2.2.2.1, SS.2.2.2.2.1, SS.2.2.2.2.2.1.tl.tl.cons (SS.2.2.2.2.2.2.1 17 j _), SS.2.2.2.2.2.2⟩
theorem ms_zast (hd : decode cc pc = .ok (.bastore, 1)) : mv_Snd cc maxL ret own lvl pc (mo_zast (pc + 1)) := by
  intro p l e s m args below meth c ad D cA K Q L st M H locs ls X hK hN h S kk
  match st, h, S with
  | .inl x :: .inl i :: .inr (t, j) :: st', hh, SS =>
    dsimp only [mo_zast] at hh
    replace hh := mv_cond hh
    have hb := hh.1
    have hin := hh.2.1
    have hx := hh.2.2.1
    replace hh := hh.2.2.2
    have hb := Nat.eq_of_beq_eq_true hb
    subst hb
    obtain ⟨hj1, hj2⟩ := SS.2.2.2.2.2.1.tl.tl.hd
    obtain ⟨q0, hq, hset⟩ := mv_ws_get SS.2.1 (mv_IX_mem hj1 hj2)
    have hset := hset (mv_up M.1 17 j i.toNat x, M.2) (fun _ _ _ z => mv_cell_up z)
    rw [mv_cell_int (by decide) (by decide), ← mv_arr_up] at hset
    rw [mv_cell_int (by decide) (by decide)] at hq
    refine va_zast X.1 X.2.1 hK SS.1 SS.2.1 SS.2.2.1 q0 1 hq (mv_tys_at cA (by omega)) (mv_vin SS.2.2.2.2.2.1.tl.hd hin) hd (fun H1 locs1 hP1 hD1 hS1 => ?_)
    have hnar : vp_nar .boolean (Int32.ofInt x) = Int32.ofInt x := by rcases hx with rfl | rfl <;> rfl
    rw [hnar, mv_clamp SS.2.2.2.2.2.1.tl.hd, hset] at hP1 hD1
    exact kk _ _ st' _ _ _ _ hh ⟨hP1, hD1, hS1, SS.2.2.2.1, SS.2.2.2.2.1, SS.2.2.2.2.2.1.tl.tl.tl, SS.2.2.2.2.2.2.up SS.2.2.2.2.2.1.hd⟩
theorem ms_alen (hd : decode cc pc = .ok (.arraylength, 1)) : mv_Snd cc maxL ret own lvl pc (mo_alen (pc + 1)) := by
  intro p l e s m args below meth c ad D cA K Q L st M H locs ls X hK hN h S kk
  match st, h, S with
  | .inr (t, j) :: st', hh, SS =>
    dsimp only [mo_alen] at hh
    obtain ⟨h12, h33, hrt, hac, hh⟩ := mv_lkI hh
    obtain ⟨hj1, hj2⟩ := SS.2.2.2.2.2.1.hd
    obtain ⟨q0, hq, -⟩ := mv_ws_get SS.2.1 (mv_IX_mem hj1 hj2)
    rw [mv_cell_int h12 hrt, hac] at hq
    have hle : ∀ t, t < 33 → mv_len t ≤ 2035 := by decide +kernel
    have hl := hle t h33
    refine va_alen X.1 X.2.1 hK SS.1 q0 0 hq (mv_tys_at cA (by omega)) (v := Int32.ofInt (mv_len t : Int)) rfl hd ?_
    exact kk _ _ (.inl (mv_len t : Int) :: st') _ _ _ _ hh ⟨SS.1, SS.2.1, SS.2.2.1, SS.2.2.2.1, SS.2.2.2.2.1, SS.2.2.2.2.2.1.tl.cons (show _ ∧ _ from ⟨by omega, by omega⟩), SS.2.2.2.2.2.2⟩
theorem mv_aald_at {p l e s m args below meth c} {ad : Nat → Nat → Nat} {D : va_G} {cA : Nat → ClassId} {R : Room} {Qm : State → Prop} {L : mv_L} {st : List mv_V} {M : mv_M} {H : Heap} {locs : List Loc} {ls : Array Slot} {i : Int} {t j : Nat}
    (hd : decode cc pc = .ok (.aaload, 1)) (X : mv_Cx cc maxL ret own p s m args meth c) (hK : va_K D vwCl (mv_tys cA) s) (S : mv_St ad D cA maxL s.heap M L (.inl i :: .inr (t, j) :: st) H locs ls) (h12 : ¬ t < 12) (hrt : mv_rt t = true) (hac : mv_ac t < 7) {C : String} (hat : mv_at (mv_ac t) = .object C) (hin : 0 ≤ i ∧ i < (mv_len t : Int))
    (kk : W p l e R s m args below meth c H locs 0 0 Qm (F0 m (pc + 1) ls (.ref (ad (mv_et t) (mv_ei M t j i.toNat)) :: st.map (mv_tr ad)))) : W p l e R s m args below meth c H locs 0 0 Qm (F0 m pc ls ((.inl i :: .inr (t, j) :: st : List mv_V).map (mv_tr ad))) := by
  obtain ⟨hj1, hj2⟩ := S.2.2.2.2.2.1.tl.hd
  obtain ⟨q0, hq, -⟩ := mv_ws_get S.2.1 (mv_IX_mem hj1 hj2)
  rw [mv_cell_ref h12 hrt] at hq
  refine va_aldq (C := C) X.1 X.2.1 hK S.1 q0 (mv_ac t) hq (by rw [mv_tys_at cA hac, hat]) (mv_vin S.2.2.2.2.2.1.hd hin) hd ?_
  rw [mv_clamp S.2.2.2.2.2.1.hd]
  exact kk
theorem ms_aald (hd : decode cc pc = .ok (.aaload, 1)) : mv_Snd cc maxL ret own lvl pc (mo_aald (pc + 1)) := by
  intro p l e s m args below meth c ad D cA K Q L st M H locs ls X hK hN h S kk
  match st, h, S with
  | .inl i :: .inr (t, j) :: st', hh, SS =>
    dsimp only [mo_aald] at hh
    obtain ⟨hj1, hj2⟩ := SS.2.2.2.2.2.1.tl.hd
    rcases mv_cond2 hh with h2 | g1
    · have hb := Nat.eq_of_beq_eq_true h2.1
      have hin := h2.2.1
      subst hb
      refine mv_aald_at hd X hK SS (by decide) (by decide) (by decide) rfl hin ?_
      exact kk _ _ (.inr (0, 6 * j + i.toNat) :: st') _ _ _ _ h2.2.2 ⟨SS.1, SS.2.1, SS.2.2.1, SS.2.2.2.1, SS.2.2.2.2.1, SS.2.2.2.2.2.1.tl.tl.cons (show _ ∧ _ from ⟨by decide, by have h2 : j < 20 := hj2; show _ < 120; omega⟩), SS.2.2.2.2.2.2⟩
    rcases mv_cond2 g1 with h2 | g2
    · have hb := Nat.eq_of_beq_eq_true h2.1
      have hin := h2.2.1
      subst hb
      refine mv_aald_at hd X hK SS (by decide) (by decide) (by decide) rfl hin ?_
      exact kk _ _ (.inr (5, 8 * j + i.toNat) :: st') _ _ _ _ h2.2.2 ⟨SS.1, SS.2.1, SS.2.2.1, SS.2.2.2.1, SS.2.2.2.2.1, SS.2.2.2.2.2.1.tl.tl.cons (show _ ∧ _ from ⟨by decide, by have h2 : j < 20 := hj2; show _ < 160; omega⟩), SS.2.2.2.2.2.2⟩
    rcases mv_cond2 g2 with h2 | g3
    · have hb := Nat.eq_of_beq_eq_true h2.1
      have hin := h2.2.1
      subst hb
      refine mv_aald_at hd X hK SS (by decide) (by decide) (by decide) rfl hin ?_
      exact kk _ _ (.inr (2, 6 * j + i.toNat) :: st') _ _ _ _ h2.2.2 ⟨SS.1, SS.2.1, SS.2.2.1, SS.2.2.2.1, SS.2.2.2.2.1, SS.2.2.2.2.2.1.tl.tl.cons (show _ ∧ _ from ⟨by decide, by have h2 : j < 3 := hj2; show _ < 18; omega⟩), SS.2.2.2.2.2.2⟩
    rcases mv_cond2 g3 with h2 | g4
    · have hb := Nat.eq_of_beq_eq_true h2.1
      have hin := h2.2.1
      subst hb
      refine mv_aald_at hd X hK SS (by decide) (by decide) (by decide) rfl hin ?_
      exact kk _ _ (.inr (1, 3 * j + 1 + i.toNat) :: st') _ _ _ _ h2.2.2 ⟨SS.1, SS.2.1, SS.2.2.1, SS.2.2.2.1, SS.2.2.2.2.1, SS.2.2.2.2.2.1.tl.tl.cons (show _ ∧ _ from ⟨by decide, by have h2 : j < 6 := hj2; show _ < 20; omega⟩), SS.2.2.2.2.2.2⟩
    replace hh := mv_cond g4
    have hb := hh.1
    have hin := hh.2.1
    replace hh := hh.2.2
    have hb := Nat.eq_of_beq_eq_true hb
    subst hb
    refine mv_aald_at hd X hK SS (by decide) (by decide) (by decide) rfl hin ?_
    exact kk _ _ (.inr (7, M.2 i.toNat) :: st') _ _ _ _ hh ⟨SS.1, SS.2.1, SS.2.2.1, SS.2.2.2.1, SS.2.2.2.2.1, SS.2.2.2.2.2.1.tl.tl.cons (show _ ∧ _ from ⟨by decide, SS.2.2.2.2.2.2.2 _⟩), SS.2.2.2.2.2.2⟩
theorem mv_cell_us {ad : Nat → Nat → Nat} {cA : Nat → ClassId} {M : mv_M} {i v t' j' : Nat} (h : ¬ t' = 18) : mv_cell ad cA (M.1, mv_us M.2 i v) t' j' = mv_cell ad cA M t' j' := by
  have e2 : mv_fs ad (M.1, mv_us M.2 i v) t' j' = mv_fs ad M t' j' := rfl
  have e3 : ∀ q, mv_ei (M.1, mv_us M.2 i v) t' j' q = mv_ei M t' j' q := by
    intro q
    have : Nat.beq t' 18 = false := by
      cases hb : Nat.beq t' 18 with
      | false => rfl
      | true => exact absurd (Nat.eq_of_beq_eq_true hb) h
    simp [mv_ei, this]
  unfold mv_cell
  simp only [e2, e3]
theorem ms_aast (hd : decode cc pc = .ok (.aastore, 1)) : mv_Snd cc maxL ret own lvl pc (mo_aast (pc + 1)) := by
  intro p l e s m args below meth c ad D cA K Q L st M H locs ls X hK hN h S kk
  match st, h, S with
  | .inr (t2, v) :: .inl i :: .inr (t, j) :: st', hh, SS =>
    dsimp only [mo_aast] at hh
    replace hh := mv_cond hh
    have hb2 := hh.1
    replace hh := hh.2
    replace hh := mv_cond hh
    have hb := hh.1
    have hin := hh.2.1
    replace hh := hh.2.2
    have hb := Nat.eq_of_beq_eq_true hb
    have hb2 := Nat.eq_of_beq_eq_true hb2
    subst hb
    subst hb2
    obtain ⟨hj1, hj2⟩ := SS.2.2.2.2.2.1.tl.tl.hd
    obtain ⟨hv1, hv2⟩ := SS.2.2.2.2.2.1.hd
    have hj0 : j = 0 := by have h2 : j < 1 := hj2; omega
    subst hj0
    obtain ⟨q0, hq, hset⟩ := mv_ws_get SS.2.1 (mv_IX_mem hj1 hj2)
    obtain ⟨qk, hqk, -⟩ := mv_ws_get SS.2.1 (mv_IX_mem hv1 hv2)
    have hIX : ∀ j', (18, j') ∈ mv_IX → j' = 0 := fun j' hj' => by
      have h2 : j' < 1 := (mv_mem_IX hj').2
      omega
    have hset := hset (M.1, mv_us M.2 i.toNat v) (fun t' j' hm z => by
      by_cases h18 : t' = 18
      · subst h18
        exact absurd ⟨rfl, hIX j' hm⟩ z
      · exact mv_cell_us h18)
    have hup : va_up (fun q => some (ad 7 (M.2 q))) i.toNat (some (ad 7 v)) = fun q => some (ad 7 (mv_us M.2 i.toNat v q)) := by
      funext q
      by_cases hq2 : q = i.toNat
      · simp [va_up, mv_us, hq2]
      · simp [va_up, mv_us, hq2]
    have e1 : mv_cell ad cA (M.1, mv_us M.2 i.toNat v) 18 0 = .inl (cA 5, 5, .inr (.inr (.inr (.inr (fun q => some (ad 7 (mv_us M.2 i.toNat v q))))))) := rfl
    have e0 : mv_cell ad cA M 18 0 = .inl (cA 5, 5, .inr (.inr (.inr (.inr (fun q => some (ad 7 (M.2 q))))))) := rfl
    rw [e1, ← hup] at hset
    rw [e0] at hq
    rw [mv_cell_obj (by decide)] at hqk
    refine va_astq (r := (RX7, TX7, 3)) X.1 X.2.1 hK SS.1 SS.2.1 SS.2.2.1 q0 5 qk 7 hq (mv_tys_at cA (by omega)) hqk rfl (mv_vin SS.2.2.2.2.2.1.tl.hd hin) hd (fun H1 locs1 hP1 hD1 hS1 => ?_)
    rw [mv_clamp SS.2.2.2.2.2.1.tl.hd, hset] at hP1 hD1
    refine kk _ _ st' _ _ _ _ hh ⟨hP1, hD1, hS1, SS.2.2.2.1, SS.2.2.2.2.1, SS.2.2.2.2.2.1.tl.tl.tl, SS.2.2.2.2.2.2.1, fun q => ?_⟩
    show (if q = i.toNat then v else M.2 q) < 6
    by_cases hq2 : q = i.toNat
    · rw [if_pos hq2]; exact hv2
    · rw [if_neg hq2]; exact SS.2.2.2.2.2.2.2 q
theorem mv_arr_cp {M : mv_M} {t1 j1 sp t2 j2 dp n : Nat} : va_cpy (fun q => Int32.ofInt (M.1 t1 j1 q)) (fun q => Int32.ofInt (M.1 t2 j2 q)) sp dp n = fun q => Int32.ofInt (mv_cp M.1 t1 j1 sp t2 j2 dp n t2 j2 q) := by
  funext q
  by_cases h : dp ≤ q ∧ q < dp + n
  · simp [va_cpy, mv_cp, h]
  · simp [va_cpy, mv_cp, h]
theorem mv_cell_cp {ad : Nat → Nat → Nat} {cA : Nat → ClassId} {M : mv_M} {t1 j1 sp t2 j2 dp n t' j' : Nat} (h : ¬ (t' = t2 ∧ j' = j2)) : mv_cell ad cA (mv_cp M.1 t1 j1 sp t2 j2 dp n, M.2) t' j' = mv_cell ad cA M t' j' := by
  have e : ∀ i, mv_cp M.1 t1 j1 sp t2 j2 dp n t' j' i = M.1 t' j' i := fun i => if_neg (fun q => h ⟨q.1, q.2.1⟩)
  have e2 : mv_fs ad (mv_cp M.1 t1 j1 sp t2 j2 dp n, M.2) t' j' = mv_fs ad M t' j' := by
    unfold mv_fs
    congr 1
    funext i o
    cases o with
    | none => simp [mv_fv, e]
    | some o => rfl
  unfold mv_cell
  rw [e2]
  by_cases h1 : t' < 12
  · rw [if_pos h1, if_pos h1]
  · rw [if_neg h1, if_neg h1]
    by_cases h2 : mv_rt t' = true
    · rw [if_pos h2, if_pos h2]; rfl
    · rw [if_neg h2, if_neg h2]
      simp only [e]
theorem ms_copy {idx : Nat} (hd : decode cc pc = .ok (.invokestatic idx, 3)) (hw : Cond.methodLink own idx arraycopyName ∈ mv_tb) (hnat : Cond.native arraycopyName ∈ mv_tb) (hstat : Cond.static arraycopyName ∈ mv_tb) (hini : Cond.initialized "java/lang/System" ∈ mv_tb) : mv_Snd cc maxL ret own lvl pc (mo_copy (pc + 3)) := by
  intro p l e s m args below meth c ad D cA K Q L st M H locs ls X hK hN h S kk
  match st, h, S with
  | .inl n :: .inl dp :: .inr (t2, j2) :: .inl sp :: [.inr (t1, j1)], hh, SS =>
    dsimp only [mo_copy] at hh
    obtain ⟨a12, a33, art, aac, hh⟩ := mv_lkI hh
    obtain ⟨b12, b33, brt, bac, hb, hh⟩ := mv_lkI hh
    have vn := SS.2.2.2.2.2.1.hd
    have vd := SS.2.2.2.2.2.1.tl.hd
    have v2 := SS.2.2.2.2.2.1.tl.tl.hd
    have vs := SS.2.2.2.2.2.1.tl.tl.tl.hd
    have v1 := SS.2.2.2.2.2.1.tl.tl.tl.tl.hd
    obtain ⟨q0, hq0, -⟩ := mv_ws_get SS.2.1 (mv_IX_mem v1.1 v1.2)
    obtain ⟨q1, hq1, hset⟩ := mv_ws_get SS.2.1 (mv_IX_mem v2.1 v2.2)
    have hset := hset (mv_cp M.1 t1 j1 sp.toNat t2 j2 dp.toNat n.toNat, M.2) (fun _ _ _ z => mv_cell_cp z)
    rw [mv_cell_int b12 brt, bac, ← mv_arr_cp] at hset
    rw [mv_cell_int b12 brt, bac] at hq1
    rw [mv_cell_int a12 art, aac] at hq0
    have pos : ∀ {z : Int}, (-2147483648 ≤ z ∧ z ≤ 2147483647) → 0 ≤ z → ¬ Int32.ofInt z < 0 := fun hz h0 q => by
      have := (mv_ilt hz mv_r0).mp q
      omega
    obtain ⟨b1, b2, b3, b4, b5⟩ := hb
    refine va_copyi X.1 X.2.1 (by rw [X.2.2.1]; exact SS.2.2.2.1.1.1.symm) X.2.2.2.1 (X.2.2.2.2.1 _ hw) (X.2.2.2.2.1 _ hnat) (X.2.2.2.2.1 _ hstat) (X.2.2.2.2.1 _ hini) hK SS.1 SS.2.1 SS.2.2.1 q0 q1 0 0 hq0 hq1 (mv_tys_at cA (by omega)) (mv_tys_at cA (by omega)) rfl (pos vs b1) (pos vd b2) (pos vn b3)
      (by rw [mv_clamp vs, mv_clamp vn]; omega) (by rw [mv_clamp vd, mv_clamp vn]; omega) (fun _ _ => rfl) (Nat.le_add_left 1 lvl) (by show 0 + (7 + 11) ≤ 40 + 30 * lvl; omega) hd (fun H1 locs1 hP1 hD1 hS1 => ?_)
    rw [mv_clamp vs, mv_clamp vd, mv_clamp vn, hset] at hP1 hD1
    exact kk _ _ [] _ _ _ _ hh ⟨hP1, hD1, hS1, SS.2.2.2.1, SS.2.2.2.2.1, (fun _ z => by cases z), SS.2.2.2.2.2.2.cp⟩
def mv_Ev (lvl : Nat) (y : MethodName) (cc : ByteArray) (maxL : Nat) (ret : Option FieldType) (av : List mv_V) (M : mv_M) (Q : mv_R) : Prop :=
  ∀ (l : Launch) (ad : Nat → Nat → Nat) (D : va_G) (cA : Nat → ClassId), mv_Sok av → mv_Mok M →
    Met l y (Cond.code y cc maxL ret :: mv_tb) (mv_rm lvl) (fun a U => a = (av.map (mv_tr ad)).toArray ∧ va_P D vwCl (mv_ws ad cA M) U.heap ∧ va_D (mv_A ad) (mv_ws ad cA M) ∧ va_K D vwCl (mv_tys cA) U ∧ mv_N U) (mv_Qc ad D cA Q) 0 0 (mv_A ad)
end MVH
-- calls
def mv_pop : Nat → List mv_V → List mv_V → (List mv_V → List mv_V → Prop) → Prop
  | 0, st, acc, k => k acc st
  | n + 1, v :: st, acc, k => mv_pop n st (v :: acc) k
  | _ + 1, [], _, _ => False
theorem mv_pop_at : ∀ {n : Nat} {st acc : List mv_V} {k : List mv_V → List mv_V → Prop}, mv_pop n st acc k → ∃ as st', as.length = n ∧ st = as.reverse ++ st' ∧ k (as ++ acc) st'
  | 0, st, acc, k, h => ⟨[], st, rfl, rfl, h⟩
  | n + 1, [], _, _, h => h.elim
  | n + 1, v :: st, acc, k, h => by
    obtain ⟨as, st', h1, h2, h3⟩ := mv_pop_at (n := n) h
    exact ⟨as ++ [v], st', by simp [h1], by simp [h2], by simpa using h3⟩
def mv_push (K : mv_K) (nx : Nat) (L : mv_L) (st : List mv_V) : mv_R := fun v M => match v with
  | some x => K nx L (x :: st) M
  | none => K nx L st M
/-- a call of an object's method: n arguments behind the receiver, which is of class C -/
def mo_callV (lv : Nat) (y : MethodName) (bytes : ByteArray) (mxL : Nat) (rt : Option FieldType) (C n nx : Nat) : mv_O := fun K _ L st M => mv_pop n st [] (fun as st1 => match st1 with
  | .inr (t, j) :: st' => cond (Nat.ble st'.length 8) (cond (Nat.beq t C) (mv_Ev lv y bytes mxL rt (.inr (t, j) :: as) M (mv_push K nx L st')) False) False
  | _ => False)
def mo_callS (lv : Nat) (y : MethodName) (bytes : ByteArray) (mxL : Nat) (rt : Option FieldType) (n nx : Nat) : mv_O := fun K _ L st M => mv_pop n st [] (fun as st' =>
  cond (Nat.ble st'.length 8) (mv_Ev lv y bytes mxL rt as M (mv_push K nx L st')) False)
theorem mv_catsum (ad : Nat → Nat → Nat) : ∀ st : List mv_V, ((st.map (mv_tr ad)).map fun v => v.category).sum = st.length
  | [] => rfl
  | v :: st => by simp only [List.map_cons, List.sum_cons, mv_tr_cat, mv_catsum ad st, List.length_cons]; omega
def mv_Yk (y : MethodName) (bytes : ByteArray) (mxL : Nat) (rt : Option FieldType) (n : Nat) : Prop :=
  Cond.code y bytes mxL rt ∈ mv_tb ∧ Cond.initialized y.cls ∈ mv_tb ∧ (y.cls ≠ "java/lang/invoke/MethodHandle" ∧ y.cls ≠ "java/lang/invoke/VarHandle") ∧ (parseMethodDescriptor y.desc).map (fun d => d.parameters.length) = some n ∧ mxL ≤ 11
theorem mv_tb_good : ∀ w ∈ mv_tb, ((w.onTables && w.keeps) = true ∨ ∃ ty, w = .arrayClass ty) := fun w hw => good_of_word (List.mem_filter.mp hw).2
theorem mv_goodIn {y : MethodName} {bytes : ByteArray} {mxL : Nat} {rt : Option FieldType} (h : Cond.code y bytes mxL rt ∈ mv_tb) : GoodIn mv_tb (Cond.code y bytes mxL rt :: mv_tb) := by
  intro w hw
  rcases List.mem_cons.mp hw with rfl | hw
  · exact ⟨h, mv_tb_good _ h⟩
  · exact ⟨hw, mv_tb_good _ hw⟩
section MVC
variable {p : Program} {l : Launch} {e : Env} {R : Room} {s : State} {m : MethodId} {args : Array Value} {below : List Frame} {meth : Method} {c : Code} {H : Heap} {locs : List Loc} {Qm : State → Prop}
theorem mv_callW {ad : Nat → Nat → Nat} {D : va_G} {cA : Nat → ClassId} {Q : mv_R} {a : Array Value} {pc : Nat} {ls : Array Slot} {st0 rest : List Value} {H0 : Heap}
    (hr : va_Run p l e R s m args below meth c H locs 0 0 0 0 (F0 m pc ls st0) rest (mv_Qc ad D cA Q a) (mv_A ad)) (hS : va_S (mv_A ad) H0 H locs)
    (kk : ∀ (v : Option mv_V) (M' : mv_M) (H' : Heap) (locs' : List Loc), Q v M' → (∀ w, v = some w → mv_vok w) → mv_Mok M' → va_P D vwCl (mv_ws ad cA M') H' → va_S (mv_A ad) H0 H' locs' → W p l e R s m args below meth c H' locs' 0 0 Qm (F0 m (pc + 3) ls ((v.map (mv_tr ad)).toList ++ rest))) :
    W p l e R s m args below meth c H locs 0 0 Qm (F0 m pc ls st0) := by
  intro T hT X
  obtain ⟨v, st₀, t, T', L, h0, X', hL, e1, e2, ⟨⟨v', M', hv, hq, hvo, hMo, hP⟩, hz, hk⟩, st⟩ := hr T hT X
  cases hv
  rw [h0] at hz hk
  obtain ⟨t2, a1, b1⟩ := kk v' M' T'.heap (locs ++ L) hq hvo hMo (by rw [e1]; exact hP)
    ⟨Nat.le_trans hS.1 (by rw [e1]; exact hz), fun q h1 h2 => by rw [e1, hk q (Nat.lt_of_lt_of_le h1 hS.1) h2]; exact hS.2.1 q h1 h2, fun q hq => by
      rcases List.mem_append.mp hq with h | h
      · exact hS.2.2 q h
      · exact hL q h⟩ T' rfl X'
  exact ⟨t2, st t2 a1, b1⟩
end MVC
theorem mv_blind {ad : Nat → Nat → Nat} {D : va_G} {cA : Nat → ClassId} {M : mv_M} {av : List mv_V} : FrameBlind (fun a U => a = (av.map (mv_tr ad)).toArray ∧ va_P D vwCl (mv_ws ad cA M) U.heap ∧ va_D (mv_A ad) (mv_ws ad cA M) ∧ va_K D vwCl (mv_tys cA) U ∧ mv_N U) :=
  fun _ U g mk q => ⟨q.1, q.2.1, q.2.2.1, va_K.moved (u := U) (U := U.calling g mk _) (Vm.Alike.refl U.vm) q.2.2.2.1, mv_N.same (s := U) rfl q.2.2.2.2⟩
section MVD
variable {cc : ByteArray} {maxL : Nat} {ret : Option FieldType} {own : String} {lvl pc : Nat}
theorem mv_sok_app {as st : List mv_V} (h : mv_Sok (as.reverse ++ st)) : mv_Sok as ∧ mv_Sok st :=
  ⟨fun v hv => h v (List.mem_append_left _ (List.mem_reverse.mpr hv)), fun v hv => h v (List.mem_append_right _ hv)⟩
theorem mv_goes {p : Program} {l : Launch} {e : Env} {s : State} {m : MethodId} {args : Array Value} {below : List Frame} {meth : Method} {c : Code} {ad : Nat → Nat → Nat} {D : va_G} {cA : Nat → ClassId} {K : mv_K} {Qm : State → Prop} {L : mv_L} {st st' : List mv_V} {M : mv_M} {H : Heap} {locs : List Loc} {ls : Array Slot} {a : Array Value} {nx : Nat} {H0 : Heap}
    (hr : va_Run p l e (mv_rm lvl) s m args below meth c H locs 0 0 0 0 (F0 m pc ls (st.map (mv_tr ad))) (st'.map (mv_tr ad)) (mv_Qc ad D cA (mv_push K nx L st') a) (mv_A ad)) (hnx : nx = pc + 3) (S : mv_St ad D cA maxL H0 M L st H locs ls) (hst : mv_Sok st')
    (kk : ∀ (pc' : Nat) (L' : mv_L) (st' : List mv_V) (M' : mv_M) (H' : Heap) (locs' : List Loc) (ls' : Array Slot), K pc' L' st' M' → mv_St ad D cA maxL H0 M' L' st' H' locs' ls' → W p l e (mv_rm lvl) s m args below meth c H' locs' 0 0 Qm (F0 m pc' ls' (st'.map (mv_tr ad)))) :
    W p l e (mv_rm lvl) s m args below meth c H locs 0 0 Qm (F0 m pc ls (st.map (mv_tr ad))) := by
  subst hnx
  refine mv_callW hr S.2.2.1 (fun v M' H' locs' hQ hv hM hP hS => ?_)
  cases v with
  | none => exact kk _ _ _ _ _ _ _ hQ ⟨hP, mv_D_any S.2.1, hS, S.2.2.2.1, S.2.2.2.2.1, hst, hM⟩
  | some x => exact kk _ _ (x :: st') _ _ _ _ hQ ⟨hP, mv_D_any S.2.1, hS, S.2.2.2.1, S.2.2.2.2.1, hst.cons (hv x rfl), hM⟩
theorem ms_callV {idx lv n C : Nat} {y : MethodName} {bytes : ByteArray} {mxL : Nat} {rt : Option FieldType} {T : u_T} {N : Nat} {ty : Nat → FieldType} (hd : decode cc pc = .ok (.invokevirtual idx, 3)) (hl : Cond.methodLink own idx y ∈ mv_tb) (hin : Cond.instanceMethod y ∈ mv_tb) (hse : Cond.selects y.cls y y ∈ mv_tb) (hY : mv_Yk y bytes mxL rt n) (hI : mv_CI C y.cls T N ty) (hlv : lv < lvl) :
    mv_Snd cc maxL ret own lvl pc (mo_callV lv y bytes mxL rt C n (pc + 3)) := by
  intro p l e s m args below meth c ad D cA K Q L st M H locs ls X hK hN h S kk
  obtain ⟨as, st1, hn, hst, h⟩ := mv_pop_at h
  rw [List.append_nil] at h
  match st1, hst, h with
  | .inr (t, j) :: st', hst, hh =>
    have h1 := mv_cond hh
    have hlen := Nat.le_of_ble_eq_true h1.1
    have h2 := mv_cond h1.2
    have ht := Nat.eq_of_beq_eq_true h2.1
    have h3 := h2.2
    subst ht
    have hso := S.2.2.2.2.2.1
    rw [hst] at hso
    obtain ⟨ha, hb⟩ := mv_sok_app hso
    obtain ⟨q0, hq, -⟩ := mv_ws_get S.2.1 (mv_IX_mem hb.hd.1 hb.hd.2)
    rw [mv_cell_obj hI.1] at hq
    have hM := h3 l ad D cA (ha.cons hb.hd) S.2.2.2.2.2.2
    refine mv_goes (va_runV (Ts := mv_tb) (b := ad t j) (As := as.map (mv_tr ad)) (rest := st'.map (mv_tr ad)) (C := y.cls) (bytes := bytes) (maxL := mxL) (ret := rt) (n := n) (index := idx) ⟨X.1, X.2.1, X.2.2.1, X.2.2.2.1, X.2.2.2.2.1⟩ hM
      ⟨⟨rfl, rfl, by show lv + 1 + 1 ≤ lvl + 1; omega, by show 8 + (mxL + 11) + (40 + 30 * lv) ≤ 40 + 30 * lvl; have := hY.2.2.2.2; omega, pay_in X.2.2.2.2.1 (mv_goodIn hY.1), List.mem_cons_self, X.2.2.2.2.1 _ hY.1, X.2.2.2.2.1 _ hY.2.1, hY.2.2.1, fun sig hs => ?_, X.2.2.2.2.1 _ hl⟩, X.2.2.2.2.1 _ hin, X.2.2.2.2.1 _ hse⟩
      ⟨mv_blind, va_recv hK S.1 hI.2.1 hq, fun U hU hW => ⟨rfl, by rw [hU]; exact S.1, S.2.1, va_K.moved hW.alike hK, mv_N.warm hW hN⟩⟩ rfl (by simp [hn]) S.2.2.2.1.1.1 (by rw [hst]; simp [mv_tr]) (by show 2 * 0 + _ ≤ 8; rw [mv_catsum]; omega) hd ⟨Nat.zero_le _, Nat.zero_le _⟩) rfl S hb.tl kk
    have h2 := hY.2.2.2.1
    rw [hs] at h2
    exact (Option.some.inj h2).symm
theorem ms_callS {idx lv n : Nat} {y : MethodName} {bytes : ByteArray} {mxL : Nat} {rt : Option FieldType} (hd : decode cc pc = .ok (.invokestatic idx, 3)) (hl : Cond.methodLink own idx y ∈ mv_tb) (hstc : Cond.static y ∈ mv_tb) (hY : mv_Yk y bytes mxL rt n) (hlv : lv < lvl) :
    mv_Snd cc maxL ret own lvl pc (mo_callS lv y bytes mxL rt n (pc + 3)) := by
  intro p l e s m args below meth c ad D cA K Q L st M H locs ls X hK hN h S kk
  obtain ⟨as, st', hn, hst, h⟩ := mv_pop_at h
  rw [List.append_nil] at h
  replace h := mv_cond h
  have hlen := Nat.le_of_ble_eq_true h.1
  replace h := h.2
  have hso := S.2.2.2.2.2.1
  rw [hst] at hso
  obtain ⟨ha, hb⟩ := mv_sok_app hso
  have hM := h l ad D cA ha S.2.2.2.2.2.2
  refine mv_goes (va_runS (Ts := mv_tb) (As := as.map (mv_tr ad)) (rest := st'.map (mv_tr ad)) (bytes := bytes) (maxL := mxL) (ret := rt) (n := n) (index := idx) ⟨X.1, X.2.1, X.2.2.1, X.2.2.2.1, X.2.2.2.2.1⟩ hM
    ⟨⟨rfl, rfl, by show lv + 1 + 1 ≤ lvl + 1; omega, by show 8 + (mxL + 11) + (40 + 30 * lv) ≤ 40 + 30 * lvl; have := hY.2.2.2.2; omega, pay_in X.2.2.2.2.1 (mv_goodIn hY.1), List.mem_cons_self, X.2.2.2.2.1 _ hY.1, X.2.2.2.2.1 _ hY.2.1, hY.2.2.1, fun sig hs => ?_, X.2.2.2.2.1 _ hl⟩, X.2.2.2.2.1 _ hstc⟩
    ⟨mv_blind, fun U hU hW => ⟨rfl, by rw [hU]; exact S.1, S.2.1, va_K.moved hW.alike hK, mv_N.warm hW hN⟩⟩ rfl (by simp [hn]) S.2.2.2.1.1.1 (by rw [hst]; simp) (by show 2 * 0 + _ ≤ 8; rw [mv_catsum]; omega) hd ⟨Nat.zero_le _, Nat.zero_le _⟩) rfl S hb kk
  have h2 := hY.2.2.2.1
  rw [hs] at h2
  exact (Option.some.inj h2).symm
theorem ms_callSN {idx lv n : Nat} {y : MethodName} {bytes : ByteArray} {mxL : Nat} {rt : Option FieldType} (hd : decode cc pc = .ok (.invokestatic idx, 3)) (hl : (own, idx, y) ∈ mv_nest) (hstc : Cond.static y ∈ mv_tb) (hY : mv_Yk y bytes mxL rt n) (hlv : lv < lvl) :
    mv_Snd cc maxL ret own lvl pc (mo_callS lv y bytes mxL rt n (pc + 3)) := by
  intro p l e s m args below meth c ad D cA K Q L st M H locs ls X hK hN h S kk
  obtain ⟨as, st', hn, hst, h⟩ := mv_pop_at h
  rw [List.append_nil] at h
  replace h := mv_cond h
  have hlen := Nat.le_of_ble_eq_true h.1
  replace h := h.2
  have hso := S.2.2.2.2.2.1
  rw [hst] at hso
  obtain ⟨ha, hb⟩ := mv_sok_app hso
  have hM := h l ad D cA ha S.2.2.2.2.2.2
  refine mv_goes (va_runSN (Ts := mv_tb) (host := "QuoteGrid") (As := as.map (mv_tr ad)) (rest := st'.map (mv_tr ad)) (bytes := bytes) (maxL := mxL) (ret := rt) (n := n) (index := idx) ⟨X.1, X.2.1, X.2.2.1, X.2.2.2.1, X.2.2.2.2.1⟩ hM
    ⟨⟨⟨rfl, rfl, by show lv + 1 + 1 ≤ lvl + 1; omega, by show 8 + (mxL + 11) + (40 + 30 * lv) ≤ 40 + 30 * lvl; have := hY.2.2.2.2; omega, pay_in X.2.2.2.2.1 (mv_goodIn hY.1), List.mem_cons_self⟩, X.2.2.2.2.1 _ hY.1, X.2.2.2.2.1 _ hY.2.1, hY.2.2.1, fun sig hs => ?_, va_Nw.use rfl (hN _ hl)⟩, X.2.2.2.2.1 _ hstc, trivial⟩
    ⟨mv_blind, fun U hU hW => ⟨rfl, by rw [hU]; exact S.1, S.2.1, va_K.moved hW.alike hK, mv_N.warm hW hN⟩⟩ rfl (by simp [hn]) S.2.2.2.1.1.1 (by rw [hst]; simp) (by show 2 * 0 + _ ≤ 8; rw [mv_catsum]; omega) hd ⟨Nat.zero_le _, Nat.zero_le _⟩) rfl S hb kk
  have h2 := hY.2.2.2.1
  rw [hs] at h2
  exact (Option.some.inj h2).symm
end MVD
end
