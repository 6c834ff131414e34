/-! Decode rows (printed by the claim's program, NAMES.whole.lean.txt). -/
theorem dX0_copyFrom_0 : decode cX0_copyFrom 0 = .ok (.aload_n 0, 1) := by decide +kernel
theorem dX0_copyFrom_1 : decode cX0_copyFrom 1 = .ok (.aload_n 1, 1) := by decide +kernel
theorem dX0_copyFrom_2 : decode cX0_copyFrom 2 = .ok (.getfield 15, 3) := by decide +kernel
theorem dX0_copyFrom_5 : decode cX0_copyFrom 5 = .ok (.putfield 15, 3) := by decide +kernel
theorem dX0_copyFrom_8 : decode cX0_copyFrom 8 = .ok (.aload_n 0, 1) := by decide +kernel
theorem dX0_copyFrom_9 : decode cX0_copyFrom 9 = .ok (.aload_n 1, 1) := by decide +kernel
theorem dX0_copyFrom_10 : decode cX0_copyFrom 10 = .ok (.getfield 19, 3) := by decide +kernel
theorem dX0_copyFrom_13 : decode cX0_copyFrom 13 = .ok (.putfield 19, 3) := by decide +kernel
theorem dX0_copyFrom_16 : decode cX0_copyFrom 16 = .ok (.aload_n 0, 1) := by decide +kernel
theorem dX0_copyFrom_17 : decode cX0_copyFrom 17 = .ok (.aload_n 1, 1) := by decide +kernel
theorem dX0_copyFrom_18 : decode cX0_copyFrom 18 = .ok (.getfield 22, 3) := by decide +kernel
theorem dX0_copyFrom_21 : decode cX0_copyFrom 21 = .ok (.putfield 22, 3) := by decide +kernel
theorem dX0_copyFrom_24 : decode cX0_copyFrom 24 = .ok (.aload_n 1, 1) := by decide +kernel
theorem dX0_copyFrom_25 : decode cX0_copyFrom 25 = .ok (.getfield 9, 3) := by decide +kernel
theorem dX0_copyFrom_28 : decode cX0_copyFrom 28 = .ok (.iconst 0, 1) := by decide +kernel
theorem dX0_copyFrom_29 : decode cX0_copyFrom 29 = .ok (.aload_n 0, 1) := by decide +kernel
theorem dX0_copyFrom_30 : decode cX0_copyFrom 30 = .ok (.getfield 9, 3) := by decide +kernel
theorem dX0_copyFrom_33 : decode cX0_copyFrom 33 = .ok (.iconst 0, 1) := by decide +kernel
theorem dX0_copyFrom_34 : decode cX0_copyFrom 34 = .ok (.bipush 8, 2) := by decide +kernel
theorem dX0_copyFrom_36 : decode cX0_copyFrom 36 = .ok (.invokestatic 25, 3) := by decide +kernel
theorem dX0_copyFrom_39 : decode cX0_copyFrom 39 = .ok (.return_, 1) := by decide +kernel
theorem dX0_newSentence_0 : decode cX0_newSentence 0 = .ok (.aload_n 0, 1) := by decide +kernel
theorem dX0_newSentence_1 : decode cX0_newSentence 1 = .ok (.getfield 22, 3) := by decide +kernel
theorem dX0_newSentence_4 : decode cX0_newSentence 4 = .ok (.bipush 8, 2) := by decide +kernel
theorem dX0_newSentence_6 : decode cX0_newSentence 6 = .ok (.if_icmp .lt 6, 3) := by decide +kernel
theorem dX0_newSentence_9 : decode cX0_newSentence 9 = .ok (.bipush (-3), 2) := by decide +kernel
theorem dX0_newSentence_11 : decode cX0_newSentence 11 = .ok (.ireturn, 1) := by decide +kernel
theorem dX0_newSentence_12 : decode cX0_newSentence 12 = .ok (.aload_n 0, 1) := by decide +kernel
theorem dX0_newSentence_13 : decode cX0_newSentence 13 = .ok (.getfield 9, 3) := by decide +kernel
theorem dX0_newSentence_16 : decode cX0_newSentence 16 = .ok (.aload_n 0, 1) := by decide +kernel
theorem dX0_newSentence_17 : decode cX0_newSentence 17 = .ok (.getfield 22, 3) := by decide +kernel
theorem dX0_newSentence_20 : decode cX0_newSentence 20 = .ok (.iload_n 1, 1) := by decide +kernel
theorem dX0_newSentence_21 : decode cX0_newSentence 21 = .ok (.iastore, 1) := by decide +kernel
theorem dX0_newSentence_22 : decode cX0_newSentence 22 = .ok (.aload_n 0, 1) := by decide +kernel
theorem dX0_newSentence_23 : decode cX0_newSentence 23 = .ok (.dup, 1) := by decide +kernel
theorem dX0_newSentence_24 : decode cX0_newSentence 24 = .ok (.getfield 22, 3) := by decide +kernel
theorem dX0_newSentence_27 : decode cX0_newSentence 27 = .ok (.iconst 1, 1) := by decide +kernel
theorem dX0_newSentence_28 : decode cX0_newSentence 28 = .ok (.iadd, 1) := by decide +kernel
theorem dX0_newSentence_29 : decode cX0_newSentence 29 = .ok (.putfield 22, 3) := by decide +kernel
theorem dX0_newSentence_32 : decode cX0_newSentence 32 = .ok (.aload_n 0, 1) := by decide +kernel
theorem dX0_newSentence_33 : decode cX0_newSentence 33 = .ok (.getfield 22, 3) := by decide +kernel
theorem dX0_newSentence_36 : decode cX0_newSentence 36 = .ok (.iconst 1, 1) := by decide +kernel
theorem dX0_newSentence_37 : decode cX0_newSentence 37 = .ok (.isub, 1) := by decide +kernel
theorem dX0_newSentence_38 : decode cX0_newSentence 38 = .ok (.ireturn, 1) := by decide +kernel
theorem dX1_newArticle_0 : decode cX1_newArticle 0 = .ok (.aload_n 0, 1) := by decide +kernel
theorem dX1_newArticle_1 : decode cX1_newArticle 1 = .ok (.getfield 29, 3) := by decide +kernel
theorem dX1_newArticle_4 : decode cX1_newArticle 4 = .ok (.bipush 6, 2) := by decide +kernel
theorem dX1_newArticle_6 : decode cX1_newArticle 6 = .ok (.if_icmp .lt 6, 3) := by decide +kernel
theorem dX1_newArticle_9 : decode cX1_newArticle 9 = .ok (.bipush (-3), 2) := by decide +kernel
theorem dX1_newArticle_11 : decode cX1_newArticle 11 = .ok (.ireturn, 1) := by decide +kernel
theorem dX1_newArticle_12 : decode cX1_newArticle 12 = .ok (.aload_n 0, 1) := by decide +kernel
theorem dX1_newArticle_13 : decode cX1_newArticle 13 = .ok (.getfield 11, 3) := by decide +kernel
theorem dX1_newArticle_16 : decode cX1_newArticle 16 = .ok (.aload_n 0, 1) := by decide +kernel
theorem dX1_newArticle_17 : decode cX1_newArticle 17 = .ok (.getfield 29, 3) := by decide +kernel
theorem dX1_newArticle_20 : decode cX1_newArticle 20 = .ok (.aaload, 1) := by decide +kernel
theorem dX1_newArticle_21 : decode cX1_newArticle 21 = .ok (.astore_n 3, 1) := by decide +kernel
theorem dX1_newArticle_22 : decode cX1_newArticle 22 = .ok (.aload_n 3, 1) := by decide +kernel
theorem dX1_newArticle_23 : decode cX1_newArticle 23 = .ok (.iload_n 1, 1) := by decide +kernel
theorem dX1_newArticle_24 : decode cX1_newArticle 24 = .ok (.putfield 63, 3) := by decide +kernel
theorem dX1_newArticle_27 : decode cX1_newArticle 27 = .ok (.aload_n 3, 1) := by decide +kernel
theorem dX1_newArticle_28 : decode cX1_newArticle 28 = .ok (.iload_n 2, 1) := by decide +kernel
theorem dX1_newArticle_29 : decode cX1_newArticle 29 = .ok (.putfield 57, 3) := by decide +kernel
theorem dX1_newArticle_32 : decode cX1_newArticle 32 = .ok (.aload_n 3, 1) := by decide +kernel
theorem dX1_newArticle_33 : decode cX1_newArticle 33 = .ok (.iconst 0, 1) := by decide +kernel
theorem dX1_newArticle_34 : decode cX1_newArticle 34 = .ok (.putfield 60, 3) := by decide +kernel
theorem dX1_newArticle_37 : decode cX1_newArticle 37 = .ok (.aload_n 0, 1) := by decide +kernel
theorem dX1_newArticle_38 : decode cX1_newArticle 38 = .ok (.dup, 1) := by decide +kernel
theorem dX1_newArticle_39 : decode cX1_newArticle 39 = .ok (.getfield 29, 3) := by decide +kernel
theorem dX1_newArticle_42 : decode cX1_newArticle 42 = .ok (.iconst 1, 1) := by decide +kernel
theorem dX1_newArticle_43 : decode cX1_newArticle 43 = .ok (.iadd, 1) := by decide +kernel
theorem dX1_newArticle_44 : decode cX1_newArticle 44 = .ok (.putfield 29, 3) := by decide +kernel
theorem dX1_newArticle_47 : decode cX1_newArticle 47 = .ok (.aload_n 0, 1) := by decide +kernel
theorem dX1_newArticle_48 : decode cX1_newArticle 48 = .ok (.getfield 29, 3) := by decide +kernel
theorem dX1_newArticle_51 : decode cX1_newArticle 51 = .ok (.iconst 1, 1) := by decide +kernel
theorem dX1_newArticle_52 : decode cX1_newArticle 52 = .ok (.isub, 1) := by decide +kernel
theorem dX1_newArticle_53 : decode cX1_newArticle 53 = .ok (.ireturn, 1) := by decide +kernel
theorem dX1_newQuote_0 : decode cX1_newQuote 0 = .ok (.aload_n 0, 1) := by decide +kernel
theorem dX1_newQuote_1 : decode cX1_newQuote 1 = .ok (.getfield 37, 3) := by decide +kernel
theorem dX1_newQuote_4 : decode cX1_newQuote 4 = .ok (.bipush 8, 2) := by decide +kernel
theorem dX1_newQuote_6 : decode cX1_newQuote 6 = .ok (.if_icmp .lt 6, 3) := by decide +kernel
theorem dX1_newQuote_9 : decode cX1_newQuote 9 = .ok (.bipush (-3), 2) := by decide +kernel
theorem dX1_newQuote_11 : decode cX1_newQuote 11 = .ok (.ireturn, 1) := by decide +kernel
theorem dX1_newQuote_12 : decode cX1_newQuote 12 = .ok (.aload_n 0, 1) := by decide +kernel
theorem dX1_newQuote_13 : decode cX1_newQuote 13 = .ok (.getfield 19, 3) := by decide +kernel
theorem dX1_newQuote_16 : decode cX1_newQuote 16 = .ok (.aload_n 0, 1) := by decide +kernel
theorem dX1_newQuote_17 : decode cX1_newQuote 17 = .ok (.getfield 37, 3) := by decide +kernel
theorem dX1_newQuote_20 : decode cX1_newQuote 20 = .ok (.aaload, 1) := by decide +kernel
theorem dX1_newQuote_21 : decode cX1_newQuote 21 = .ok (.astore 5, 2) := by decide +kernel
theorem dX1_newQuote_23 : decode cX1_newQuote 23 = .ok (.aload 5, 2) := by decide +kernel
theorem dX1_newQuote_25 : decode cX1_newQuote 25 = .ok (.iload_n 1, 1) := by decide +kernel
theorem dX1_newQuote_26 : decode cX1_newQuote 26 = .ok (.putfield 66, 3) := by decide +kernel
theorem dX1_newQuote_29 : decode cX1_newQuote 29 = .ok (.aload 5, 2) := by decide +kernel
theorem dX1_newQuote_31 : decode cX1_newQuote 31 = .ok (.iload_n 2, 1) := by decide +kernel
theorem dX1_newQuote_32 : decode cX1_newQuote 32 = .ok (.putfield 69, 3) := by decide +kernel
theorem dX1_newQuote_35 : decode cX1_newQuote 35 = .ok (.aload 5, 2) := by decide +kernel
theorem dX1_newQuote_37 : decode cX1_newQuote 37 = .ok (.iload_n 3, 1) := by decide +kernel
theorem dX1_newQuote_38 : decode cX1_newQuote 38 = .ok (.putfield 72, 3) := by decide +kernel
theorem dX1_newQuote_41 : decode cX1_newQuote 41 = .ok (.aload 5, 2) := by decide +kernel
theorem dX1_newQuote_43 : decode cX1_newQuote 43 = .ok (.iload 4, 2) := by decide +kernel
theorem dX1_newQuote_45 : decode cX1_newQuote 45 = .ok (.putfield 75, 3) := by decide +kernel
theorem dX1_newQuote_48 : decode cX1_newQuote 48 = .ok (.aload 5, 2) := by decide +kernel
theorem dX1_newQuote_50 : decode cX1_newQuote 50 = .ok (.iconst 0, 1) := by decide +kernel
theorem dX1_newQuote_51 : decode cX1_newQuote 51 = .ok (.putfield 78, 3) := by decide +kernel
theorem dX1_newQuote_54 : decode cX1_newQuote 54 = .ok (.aload_n 0, 1) := by decide +kernel
theorem dX1_newQuote_55 : decode cX1_newQuote 55 = .ok (.dup, 1) := by decide +kernel
theorem dX1_newQuote_56 : decode cX1_newQuote 56 = .ok (.getfield 37, 3) := by decide +kernel
theorem dX1_newQuote_59 : decode cX1_newQuote 59 = .ok (.iconst 1, 1) := by decide +kernel
theorem dX1_newQuote_60 : decode cX1_newQuote 60 = .ok (.iadd, 1) := by decide +kernel
theorem dX1_newQuote_61 : decode cX1_newQuote 61 = .ok (.putfield 37, 3) := by decide +kernel
theorem dX1_newQuote_64 : decode cX1_newQuote 64 = .ok (.aload_n 0, 1) := by decide +kernel
theorem dX1_newQuote_65 : decode cX1_newQuote 65 = .ok (.getfield 37, 3) := by decide +kernel
theorem dX1_newQuote_68 : decode cX1_newQuote 68 = .ok (.iconst 1, 1) := by decide +kernel
theorem dX1_newQuote_69 : decode cX1_newQuote 69 = .ok (.isub, 1) := by decide +kernel
theorem dX1_newQuote_70 : decode cX1_newQuote 70 = .ok (.ireturn, 1) := by decide +kernel
theorem dX1_placedQuotes_0 : decode cX1_placedQuotes 0 = .ok (.iconst 0, 1) := by decide +kernel
theorem dX1_placedQuotes_1 : decode cX1_placedQuotes 1 = .ok (.istore_n 1, 1) := by decide +kernel
theorem dX1_placedQuotes_2 : decode cX1_placedQuotes 2 = .ok (.iconst 0, 1) := by decide +kernel
theorem dX1_placedQuotes_3 : decode cX1_placedQuotes 3 = .ok (.istore_n 2, 1) := by decide +kernel
theorem dX1_placedQuotes_4 : decode cX1_placedQuotes 4 = .ok (.iload_n 2, 1) := by decide +kernel
theorem dX1_placedQuotes_5 : decode cX1_placedQuotes 5 = .ok (.aload_n 0, 1) := by decide +kernel
theorem dX1_placedQuotes_6 : decode cX1_placedQuotes 6 = .ok (.getfield 37, 3) := by decide +kernel
theorem dX1_placedQuotes_9 : decode cX1_placedQuotes 9 = .ok (.if_icmp .ge 24, 3) := by decide +kernel
theorem dX1_placedQuotes_12 : decode cX1_placedQuotes 12 = .ok (.aload_n 0, 1) := by decide +kernel
theorem dX1_placedQuotes_13 : decode cX1_placedQuotes 13 = .ok (.getfield 19, 3) := by decide +kernel
theorem dX1_placedQuotes_16 : decode cX1_placedQuotes 16 = .ok (.iload_n 2, 1) := by decide +kernel
theorem dX1_placedQuotes_17 : decode cX1_placedQuotes 17 = .ok (.aaload, 1) := by decide +kernel
theorem dX1_placedQuotes_18 : decode cX1_placedQuotes 18 = .ok (.getfield 78, 3) := by decide +kernel
theorem dX1_placedQuotes_21 : decode cX1_placedQuotes 21 = .ok (.ifCond .eq 6, 3) := by decide +kernel
theorem dX1_placedQuotes_24 : decode cX1_placedQuotes 24 = .ok (.iinc 1 1, 3) := by decide +kernel
theorem dX1_placedQuotes_27 : decode cX1_placedQuotes 27 = .ok (.iinc 2 1, 3) := by decide +kernel
theorem dX1_placedQuotes_30 : decode cX1_placedQuotes 30 = .ok (.goto (-26), 3) := by decide +kernel
theorem dX1_placedQuotes_33 : decode cX1_placedQuotes 33 = .ok (.iload_n 1, 1) := by decide +kernel
theorem dX1_placedQuotes_34 : decode cX1_placedQuotes 34 = .ok (.ireturn, 1) := by decide +kernel
theorem dX2_hasLineOn_0 : decode cX2_hasLineOn 0 = .ok (.aload_n 0, 1) := by decide +kernel
theorem dX2_hasLineOn_1 : decode cX2_hasLineOn 1 = .ok (.getfield 15, 3) := by decide +kernel
theorem dX2_hasLineOn_4 : decode cX2_hasLineOn 4 = .ok (.iload_n 1, 1) := by decide +kernel
theorem dX2_hasLineOn_5 : decode cX2_hasLineOn 5 = .ok (.iaload, 1) := by decide +kernel
theorem dX2_hasLineOn_6 : decode cX2_hasLineOn 6 = .ok (.ifCond .le 7, 3) := by decide +kernel
theorem dX2_hasLineOn_9 : decode cX2_hasLineOn 9 = .ok (.iconst 1, 1) := by decide +kernel
theorem dX2_hasLineOn_10 : decode cX2_hasLineOn 10 = .ok (.goto 4, 3) := by decide +kernel
theorem dX2_hasLineOn_13 : decode cX2_hasLineOn 13 = .ok (.iconst 0, 1) := by decide +kernel
theorem dX2_hasLineOn_14 : decode cX2_hasLineOn 14 = .ok (.ireturn, 1) := by decide +kernel
theorem dX3_dropOldest_0 : decode cX3_dropOldest 0 = .ok (.aload_n 0, 1) := by decide +kernel
theorem dX3_dropOldest_1 : decode cX3_dropOldest 1 = .ok (.getfield 11, 3) := by decide +kernel
theorem dX3_dropOldest_4 : decode cX3_dropOldest 4 = .ok (.iconst 0, 1) := by decide +kernel
theorem dX3_dropOldest_5 : decode cX3_dropOldest 5 = .ok (.aaload, 1) := by decide +kernel
theorem dX3_dropOldest_6 : decode cX3_dropOldest 6 = .ok (.astore_n 1, 1) := by decide +kernel
theorem dX3_dropOldest_7 : decode cX3_dropOldest 7 = .ok (.iconst 1, 1) := by decide +kernel
theorem dX3_dropOldest_8 : decode cX3_dropOldest 8 = .ok (.istore_n 2, 1) := by decide +kernel
theorem dX3_dropOldest_9 : decode cX3_dropOldest 9 = .ok (.iload_n 2, 1) := by decide +kernel
theorem dX3_dropOldest_10 : decode cX3_dropOldest 10 = .ok (.iconst 5, 1) := by decide +kernel
theorem dX3_dropOldest_11 : decode cX3_dropOldest 11 = .ok (.if_icmp .ge 23, 3) := by decide +kernel
theorem dX3_dropOldest_14 : decode cX3_dropOldest 14 = .ok (.aload_n 0, 1) := by decide +kernel
theorem dX3_dropOldest_15 : decode cX3_dropOldest 15 = .ok (.getfield 11, 3) := by decide +kernel
theorem dX3_dropOldest_18 : decode cX3_dropOldest 18 = .ok (.iload_n 2, 1) := by decide +kernel
theorem dX3_dropOldest_19 : decode cX3_dropOldest 19 = .ok (.iconst 1, 1) := by decide +kernel
theorem dX3_dropOldest_20 : decode cX3_dropOldest 20 = .ok (.isub, 1) := by decide +kernel
theorem dX3_dropOldest_21 : decode cX3_dropOldest 21 = .ok (.aload_n 0, 1) := by decide +kernel
theorem dX3_dropOldest_22 : decode cX3_dropOldest 22 = .ok (.getfield 11, 3) := by decide +kernel
theorem dX3_dropOldest_25 : decode cX3_dropOldest 25 = .ok (.iload_n 2, 1) := by decide +kernel
theorem dX3_dropOldest_26 : decode cX3_dropOldest 26 = .ok (.aaload, 1) := by decide +kernel
theorem dX3_dropOldest_27 : decode cX3_dropOldest 27 = .ok (.aastore, 1) := by decide +kernel
theorem dX3_dropOldest_28 : decode cX3_dropOldest 28 = .ok (.iinc 2 1, 3) := by decide +kernel
theorem dX3_dropOldest_31 : decode cX3_dropOldest 31 = .ok (.goto (-22), 3) := by decide +kernel
theorem dX3_dropOldest_34 : decode cX3_dropOldest 34 = .ok (.aload_n 0, 1) := by decide +kernel
theorem dX3_dropOldest_35 : decode cX3_dropOldest 35 = .ok (.getfield 11, 3) := by decide +kernel
theorem dX3_dropOldest_38 : decode cX3_dropOldest 38 = .ok (.iconst 4, 1) := by decide +kernel
theorem dX3_dropOldest_39 : decode cX3_dropOldest 39 = .ok (.aload_n 1, 1) := by decide +kernel
theorem dX3_dropOldest_40 : decode cX3_dropOldest 40 = .ok (.aastore, 1) := by decide +kernel
theorem dX3_dropOldest_41 : decode cX3_dropOldest 41 = .ok (.aload_n 0, 1) := by decide +kernel
theorem dX3_dropOldest_42 : decode cX3_dropOldest 42 = .ok (.iconst 4, 1) := by decide +kernel
theorem dX3_dropOldest_43 : decode cX3_dropOldest 43 = .ok (.putfield 18, 3) := by decide +kernel
theorem dX3_dropOldest_46 : decode cX3_dropOldest 46 = .ok (.return_, 1) := by decide +kernel
theorem dX4_takenBetween_0 : decode cX4_takenBetween 0 = .ok (.iconst 0, 1) := by decide +kernel
theorem dX4_takenBetween_1 : decode cX4_takenBetween 1 = .ok (.istore 4, 2) := by decide +kernel
theorem dX4_takenBetween_3 : decode cX4_takenBetween 3 = .ok (.iload_n 1, 1) := by decide +kernel
theorem dX4_takenBetween_4 : decode cX4_takenBetween 4 = .ok (.istore 5, 2) := by decide +kernel
theorem dX4_takenBetween_6 : decode cX4_takenBetween 6 = .ok (.iload 5, 2) := by decide +kernel
theorem dX4_takenBetween_8 : decode cX4_takenBetween 8 = .ok (.iload_n 2, 1) := by decide +kernel
theorem dX4_takenBetween_9 : decode cX4_takenBetween 9 = .ok (.if_icmp .ge 23, 3) := by decide +kernel
theorem dX4_takenBetween_12 : decode cX4_takenBetween 12 = .ok (.aload_n 0, 1) := by decide +kernel
theorem dX4_takenBetween_13 : decode cX4_takenBetween 13 = .ok (.getfield 9, 3) := by decide +kernel
theorem dX4_takenBetween_16 : decode cX4_takenBetween 16 = .ok (.iload 5, 2) := by decide +kernel
theorem dX4_takenBetween_18 : decode cX4_takenBetween 18 = .ok (.iaload, 1) := by decide +kernel
theorem dX4_takenBetween_19 : decode cX4_takenBetween 19 = .ok (.iload_n 3, 1) := by decide +kernel
theorem dX4_takenBetween_20 : decode cX4_takenBetween 20 = .ok (.if_icmp .lt 6, 3) := by decide +kernel
theorem dX4_takenBetween_23 : decode cX4_takenBetween 23 = .ok (.iinc 4 1, 3) := by decide +kernel
theorem dX4_takenBetween_26 : decode cX4_takenBetween 26 = .ok (.iinc 5 1, 3) := by decide +kernel
theorem dX4_takenBetween_29 : decode cX4_takenBetween 29 = .ok (.goto (-23), 3) := by decide +kernel
theorem dX4_takenBetween_32 : decode cX4_takenBetween 32 = .ok (.iload 4, 2) := by decide +kernel
theorem dX4_takenBetween_34 : decode cX4_takenBetween 34 = .ok (.ireturn, 1) := by decide +kernel
theorem dX4_oversetInAll_0 : decode cX4_oversetInAll 0 = .ok (.iconst 0, 1) := by decide +kernel
theorem dX4_oversetInAll_1 : decode cX4_oversetInAll 1 = .ok (.istore_n 1, 1) := by decide +kernel
theorem dX4_oversetInAll_2 : decode cX4_oversetInAll 2 = .ok (.iconst 0, 1) := by decide +kernel
theorem dX4_oversetInAll_3 : decode cX4_oversetInAll 3 = .ok (.istore_n 2, 1) := by decide +kernel
theorem dX4_oversetInAll_4 : decode cX4_oversetInAll 4 = .ok (.iload_n 2, 1) := by decide +kernel
theorem dX4_oversetInAll_5 : decode cX4_oversetInAll 5 = .ok (.aload_n 0, 1) := by decide +kernel
theorem dX4_oversetInAll_6 : decode cX4_oversetInAll 6 = .ok (.getfield 51, 3) := by decide +kernel
theorem dX4_oversetInAll_9 : decode cX4_oversetInAll 9 = .ok (.if_icmp .ge 21, 3) := by decide +kernel
theorem dX4_oversetInAll_12 : decode cX4_oversetInAll 12 = .ok (.iload_n 1, 1) := by decide +kernel
theorem dX4_oversetInAll_13 : decode cX4_oversetInAll 13 = .ok (.aload_n 0, 1) := by decide +kernel
theorem dX4_oversetInAll_14 : decode cX4_oversetInAll 14 = .ok (.getfield 17, 3) := by decide +kernel
theorem dX4_oversetInAll_17 : decode cX4_oversetInAll 17 = .ok (.iload_n 2, 1) := by decide +kernel
theorem dX4_oversetInAll_18 : decode cX4_oversetInAll 18 = .ok (.aaload, 1) := by decide +kernel
theorem dX4_oversetInAll_19 : decode cX4_oversetInAll 19 = .ok (.getfield 85, 3) := by decide +kernel
theorem dX4_oversetInAll_22 : decode cX4_oversetInAll 22 = .ok (.iadd, 1) := by decide +kernel
theorem dX4_oversetInAll_23 : decode cX4_oversetInAll 23 = .ok (.istore_n 1, 1) := by decide +kernel
theorem dX4_oversetInAll_24 : decode cX4_oversetInAll 24 = .ok (.iinc 2 1, 3) := by decide +kernel
theorem dX4_oversetInAll_27 : decode cX4_oversetInAll 27 = .ok (.goto (-23), 3) := by decide +kernel
theorem dX4_oversetInAll_30 : decode cX4_oversetInAll 30 = .ok (.iload_n 1, 1) := by decide +kernel
theorem dX4_oversetInAll_31 : decode cX4_oversetInAll 31 = .ok (.ireturn, 1) := by decide +kernel
theorem dX4_jumpsInAll_0 : decode cX4_jumpsInAll 0 = .ok (.iconst 0, 1) := by decide +kernel
theorem dX4_jumpsInAll_1 : decode cX4_jumpsInAll 1 = .ok (.istore_n 1, 1) := by decide +kernel
theorem dX4_jumpsInAll_2 : decode cX4_jumpsInAll 2 = .ok (.iconst 0, 1) := by decide +kernel
theorem dX4_jumpsInAll_3 : decode cX4_jumpsInAll 3 = .ok (.istore_n 2, 1) := by decide +kernel
theorem dX4_jumpsInAll_4 : decode cX4_jumpsInAll 4 = .ok (.iload_n 2, 1) := by decide +kernel
theorem dX4_jumpsInAll_5 : decode cX4_jumpsInAll 5 = .ok (.aload_n 0, 1) := by decide +kernel
theorem dX4_jumpsInAll_6 : decode cX4_jumpsInAll 6 = .ok (.getfield 51, 3) := by decide +kernel
theorem dX4_jumpsInAll_9 : decode cX4_jumpsInAll 9 = .ok (.if_icmp .ge 21, 3) := by decide +kernel
theorem dX4_jumpsInAll_12 : decode cX4_jumpsInAll 12 = .ok (.iload_n 1, 1) := by decide +kernel
theorem dX4_jumpsInAll_13 : decode cX4_jumpsInAll 13 = .ok (.aload_n 0, 1) := by decide +kernel
theorem dX4_jumpsInAll_14 : decode cX4_jumpsInAll 14 = .ok (.getfield 17, 3) := by decide +kernel
theorem dX4_jumpsInAll_17 : decode cX4_jumpsInAll 17 = .ok (.iload_n 2, 1) := by decide +kernel
theorem dX4_jumpsInAll_18 : decode cX4_jumpsInAll 18 = .ok (.aaload, 1) := by decide +kernel
theorem dX4_jumpsInAll_19 : decode cX4_jumpsInAll 19 = .ok (.getfield 88, 3) := by decide +kernel
theorem dX4_jumpsInAll_22 : decode cX4_jumpsInAll 22 = .ok (.iadd, 1) := by decide +kernel
theorem dX4_jumpsInAll_23 : decode cX4_jumpsInAll 23 = .ok (.istore_n 1, 1) := by decide +kernel
theorem dX4_jumpsInAll_24 : decode cX4_jumpsInAll 24 = .ok (.iinc 2 1, 3) := by decide +kernel
theorem dX4_jumpsInAll_27 : decode cX4_jumpsInAll 27 = .ok (.goto (-23), 3) := by decide +kernel
theorem dX4_jumpsInAll_30 : decode cX4_jumpsInAll 30 = .ok (.iload_n 1, 1) := by decide +kernel
theorem dX4_jumpsInAll_31 : decode cX4_jumpsInAll 31 = .ok (.ireturn, 1) := by decide +kernel
theorem dX4_isMoreOverset_0 : decode cX4_isMoreOverset 0 = .ok (.iconst 0, 1) := by decide +kernel
theorem dX4_isMoreOverset_1 : decode cX4_isMoreOverset 1 = .ok (.istore_n 2, 1) := by decide +kernel
theorem dX4_isMoreOverset_2 : decode cX4_isMoreOverset 2 = .ok (.iload_n 2, 1) := by decide +kernel
theorem dX4_isMoreOverset_3 : decode cX4_isMoreOverset 3 = .ok (.aload_n 0, 1) := by decide +kernel
theorem dX4_isMoreOverset_4 : decode cX4_isMoreOverset 4 = .ok (.getfield 51, 3) := by decide +kernel
theorem dX4_isMoreOverset_7 : decode cX4_isMoreOverset 7 = .ok (.if_icmp .ge 32, 3) := by decide +kernel
theorem dX4_isMoreOverset_10 : decode cX4_isMoreOverset 10 = .ok (.aload_n 0, 1) := by decide +kernel
theorem dX4_isMoreOverset_11 : decode cX4_isMoreOverset 11 = .ok (.getfield 17, 3) := by decide +kernel
theorem dX4_isMoreOverset_14 : decode cX4_isMoreOverset 14 = .ok (.iload_n 2, 1) := by decide +kernel
theorem dX4_isMoreOverset_15 : decode cX4_isMoreOverset 15 = .ok (.aaload, 1) := by decide +kernel
theorem dX4_isMoreOverset_16 : decode cX4_isMoreOverset 16 = .ok (.getfield 85, 3) := by decide +kernel
theorem dX4_isMoreOverset_19 : decode cX4_isMoreOverset 19 = .ok (.aload_n 1, 1) := by decide +kernel
theorem dX4_isMoreOverset_20 : decode cX4_isMoreOverset 20 = .ok (.getfield 17, 3) := by decide +kernel
theorem dX4_isMoreOverset_23 : decode cX4_isMoreOverset 23 = .ok (.iload_n 2, 1) := by decide +kernel
theorem dX4_isMoreOverset_24 : decode cX4_isMoreOverset 24 = .ok (.aaload, 1) := by decide +kernel
theorem dX4_isMoreOverset_25 : decode cX4_isMoreOverset 25 = .ok (.getfield 85, 3) := by decide +kernel
theorem dX4_isMoreOverset_28 : decode cX4_isMoreOverset 28 = .ok (.if_icmp .le 5, 3) := by decide +kernel
theorem dX4_isMoreOverset_31 : decode cX4_isMoreOverset 31 = .ok (.iconst 1, 1) := by decide +kernel
theorem dX4_isMoreOverset_32 : decode cX4_isMoreOverset 32 = .ok (.ireturn, 1) := by decide +kernel
theorem dX4_isMoreOverset_33 : decode cX4_isMoreOverset 33 = .ok (.iinc 2 1, 3) := by decide +kernel
theorem dX4_isMoreOverset_36 : decode cX4_isMoreOverset 36 = .ok (.goto (-34), 3) := by decide +kernel
theorem dX4_isMoreOverset_39 : decode cX4_isMoreOverset 39 = .ok (.iconst 0, 1) := by decide +kernel
theorem dX4_isMoreOverset_40 : decode cX4_isMoreOverset 40 = .ok (.ireturn, 1) := by decide +kernel
theorem dX5_copyFrom_0 : decode cX5_copyFrom 0 = .ok (.aload_n 0, 1) := by decide +kernel
theorem dX5_copyFrom_1 : decode cX5_copyFrom 1 = .ok (.aload_n 1, 1) := by decide +kernel
theorem dX5_copyFrom_2 : decode cX5_copyFrom 2 = .ok (.getfield 9, 3) := by decide +kernel
theorem dX5_copyFrom_5 : decode cX5_copyFrom 5 = .ok (.putfield 9, 3) := by decide +kernel
theorem dX5_copyFrom_8 : decode cX5_copyFrom 8 = .ok (.aload_n 0, 1) := by decide +kernel
theorem dX5_copyFrom_9 : decode cX5_copyFrom 9 = .ok (.aload_n 1, 1) := by decide +kernel
theorem dX5_copyFrom_10 : decode cX5_copyFrom 10 = .ok (.getfield 15, 3) := by decide +kernel
theorem dX5_copyFrom_13 : decode cX5_copyFrom 13 = .ok (.putfield 15, 3) := by decide +kernel
theorem dX5_copyFrom_16 : decode cX5_copyFrom 16 = .ok (.aload_n 0, 1) := by decide +kernel
theorem dX5_copyFrom_17 : decode cX5_copyFrom 17 = .ok (.aload_n 1, 1) := by decide +kernel
theorem dX5_copyFrom_18 : decode cX5_copyFrom 18 = .ok (.getfield 18, 3) := by decide +kernel
theorem dX5_copyFrom_21 : decode cX5_copyFrom 21 = .ok (.putfield 18, 3) := by decide +kernel
theorem dX5_copyFrom_24 : decode cX5_copyFrom 24 = .ok (.aload_n 0, 1) := by decide +kernel
theorem dX5_copyFrom_25 : decode cX5_copyFrom 25 = .ok (.aload_n 1, 1) := by decide +kernel
theorem dX5_copyFrom_26 : decode cX5_copyFrom 26 = .ok (.getfield 21, 3) := by decide +kernel
theorem dX5_copyFrom_29 : decode cX5_copyFrom 29 = .ok (.putfield 21, 3) := by decide +kernel
theorem dX5_copyFrom_32 : decode cX5_copyFrom 32 = .ok (.aload_n 0, 1) := by decide +kernel
theorem dX5_copyFrom_33 : decode cX5_copyFrom 33 = .ok (.aload_n 1, 1) := by decide +kernel
theorem dX5_copyFrom_34 : decode cX5_copyFrom 34 = .ok (.getfield 24, 3) := by decide +kernel
theorem dX5_copyFrom_37 : decode cX5_copyFrom 37 = .ok (.putfield 24, 3) := by decide +kernel
theorem dX5_copyFrom_40 : decode cX5_copyFrom 40 = .ok (.aload_n 0, 1) := by decide +kernel
theorem dX5_copyFrom_41 : decode cX5_copyFrom 41 = .ok (.aload_n 1, 1) := by decide +kernel
theorem dX5_copyFrom_42 : decode cX5_copyFrom 42 = .ok (.getfield 28, 3) := by decide +kernel
theorem dX5_copyFrom_45 : decode cX5_copyFrom 45 = .ok (.putfield 28, 3) := by decide +kernel
theorem dX5_copyFrom_48 : decode cX5_copyFrom 48 = .ok (.aload_n 0, 1) := by decide +kernel
theorem dX5_copyFrom_49 : decode cX5_copyFrom 49 = .ok (.aload_n 1, 1) := by decide +kernel
theorem dX5_copyFrom_50 : decode cX5_copyFrom 50 = .ok (.getfield 31, 3) := by decide +kernel
theorem dX5_copyFrom_53 : decode cX5_copyFrom 53 = .ok (.putfield 31, 3) := by decide +kernel
theorem dX5_copyFrom_56 : decode cX5_copyFrom 56 = .ok (.aload_n 0, 1) := by decide +kernel
theorem dX5_copyFrom_57 : decode cX5_copyFrom 57 = .ok (.aload_n 1, 1) := by decide +kernel
theorem dX5_copyFrom_58 : decode cX5_copyFrom 58 = .ok (.getfield 34, 3) := by decide +kernel
theorem dX5_copyFrom_61 : decode cX5_copyFrom 61 = .ok (.putfield 34, 3) := by decide +kernel
theorem dX5_copyFrom_64 : decode cX5_copyFrom 64 = .ok (.return_, 1) := by decide +kernel
theorem dX6_hasFailed_0 : decode cX6_hasFailed 0 = .ok (.aload_n 0, 1) := by decide +kernel
theorem dX6_hasFailed_1 : decode cX6_hasFailed 1 = .ok (.getfield 25, 3) := by decide +kernel
theorem dX6_hasFailed_4 : decode cX6_hasFailed 4 = .ok (.iconst (-1), 1) := by decide +kernel
theorem dX6_hasFailed_5 : decode cX6_hasFailed 5 = .ok (.if_icmp .eq 7, 3) := by decide +kernel
theorem dX6_hasFailed_8 : decode cX6_hasFailed 8 = .ok (.iconst 1, 1) := by decide +kernel
theorem dX6_hasFailed_9 : decode cX6_hasFailed 9 = .ok (.goto 4, 3) := by decide +kernel
theorem dX6_hasFailed_12 : decode cX6_hasFailed 12 = .ok (.iconst 0, 1) := by decide +kernel
theorem dX6_hasFailed_13 : decode cX6_hasFailed 13 = .ok (.ireturn, 1) := by decide +kernel
theorem dX6_nextSign_0 : decode cX6_nextSign 0 = .ok (.aload_n 0, 1) := by decide +kernel
theorem dX6_nextSign_1 : decode cX6_nextSign 1 = .ok (.getfield 36, 3) := by decide +kernel
theorem dX6_nextSign_4 : decode cX6_nextSign 4 = .ok (.aload_n 0, 1) := by decide +kernel
theorem dX6_nextSign_5 : decode cX6_nextSign 5 = .ok (.getfield 12, 3) := by decide +kernel
theorem dX6_nextSign_8 : decode cX6_nextSign 8 = .ok (.getfield 104, 3) := by decide +kernel
theorem dX6_nextSign_11 : decode cX6_nextSign 11 = .ok (.if_icmp .ge 33, 3) := by decide +kernel
theorem dX6_nextSign_14 : decode cX6_nextSign 14 = .ok (.aload_n 0, 1) := by decide +kernel
theorem dX6_nextSign_15 : decode cX6_nextSign 15 = .ok (.getfield 12, 3) := by decide +kernel
theorem dX6_nextSign_18 : decode cX6_nextSign 18 = .ok (.getfield 105, 3) := by decide +kernel
theorem dX6_nextSign_21 : decode cX6_nextSign 21 = .ok (.aload_n 0, 1) := by decide +kernel
theorem dX6_nextSign_22 : decode cX6_nextSign 22 = .ok (.getfield 36, 3) := by decide +kernel
theorem dX6_nextSign_25 : decode cX6_nextSign 25 = .ok (.iaload, 1) := by decide +kernel
theorem dX6_nextSign_26 : decode cX6_nextSign 26 = .ok (.bipush 32, 2) := by decide +kernel
theorem dX6_nextSign_28 : decode cX6_nextSign 28 = .ok (.if_icmp .ne 16, 3) := by decide +kernel
theorem dX6_nextSign_31 : decode cX6_nextSign 31 = .ok (.aload_n 0, 1) := by decide +kernel
theorem dX6_nextSign_32 : decode cX6_nextSign 32 = .ok (.dup, 1) := by decide +kernel
theorem dX6_nextSign_33 : decode cX6_nextSign 33 = .ok (.getfield 36, 3) := by decide +kernel
theorem dX6_nextSign_36 : decode cX6_nextSign 36 = .ok (.iconst 1, 1) := by decide +kernel
theorem dX6_nextSign_37 : decode cX6_nextSign 37 = .ok (.iadd, 1) := by decide +kernel
theorem dX6_nextSign_38 : decode cX6_nextSign 38 = .ok (.putfield 36, 3) := by decide +kernel
theorem dX6_nextSign_41 : decode cX6_nextSign 41 = .ok (.goto (-41), 3) := by decide +kernel
theorem dX6_nextSign_44 : decode cX6_nextSign 44 = .ok (.aload_n 0, 1) := by decide +kernel
theorem dX6_nextSign_45 : decode cX6_nextSign 45 = .ok (.getfield 36, 3) := by decide +kernel
theorem dX6_nextSign_48 : decode cX6_nextSign 48 = .ok (.aload_n 0, 1) := by decide +kernel
theorem dX6_nextSign_49 : decode cX6_nextSign 49 = .ok (.getfield 12, 3) := by decide +kernel
theorem dX6_nextSign_52 : decode cX6_nextSign 52 = .ok (.getfield 104, 3) := by decide +kernel
theorem dX6_nextSign_55 : decode cX6_nextSign 55 = .ok (.if_icmp .ge 18, 3) := by decide +kernel
theorem dX6_nextSign_58 : decode cX6_nextSign 58 = .ok (.aload_n 0, 1) := by decide +kernel
theorem dX6_nextSign_59 : decode cX6_nextSign 59 = .ok (.getfield 12, 3) := by decide +kernel
theorem dX6_nextSign_62 : decode cX6_nextSign 62 = .ok (.getfield 105, 3) := by decide +kernel
theorem dX6_nextSign_65 : decode cX6_nextSign 65 = .ok (.aload_n 0, 1) := by decide +kernel
theorem dX6_nextSign_66 : decode cX6_nextSign 66 = .ok (.getfield 36, 3) := by decide +kernel
theorem dX6_nextSign_69 : decode cX6_nextSign 69 = .ok (.iaload, 1) := by decide +kernel
theorem dX6_nextSign_70 : decode cX6_nextSign 70 = .ok (.goto 4, 3) := by decide +kernel
theorem dX6_nextSign_73 : decode cX6_nextSign 73 = .ok (.iconst 0, 1) := by decide +kernel
theorem dX6_nextSign_74 : decode cX6_nextSign 74 = .ok (.ireturn, 1) := by decide +kernel
theorem dX7_snapshotCount_0 : decode cX7_snapshotCount 0 = .ok (.iconst 0, 1) := by decide +kernel
theorem dX7_snapshotCount_1 : decode cX7_snapshotCount 1 = .ok (.istore_n 1, 1) := by decide +kernel
theorem dX7_snapshotCount_2 : decode cX7_snapshotCount 2 = .ok (.iconst 0, 1) := by decide +kernel
theorem dX7_snapshotCount_3 : decode cX7_snapshotCount 3 = .ok (.istore_n 2, 1) := by decide +kernel
theorem dX7_snapshotCount_4 : decode cX7_snapshotCount 4 = .ok (.iload_n 2, 1) := by decide +kernel
theorem dX7_snapshotCount_5 : decode cX7_snapshotCount 5 = .ok (.iconst 2, 1) := by decide +kernel
theorem dX7_snapshotCount_6 : decode cX7_snapshotCount 6 = .ok (.if_icmp .ge 21, 3) := by decide +kernel
theorem dX7_snapshotCount_9 : decode cX7_snapshotCount 9 = .ok (.aload_n 0, 1) := by decide +kernel
theorem dX7_snapshotCount_10 : decode cX7_snapshotCount 10 = .ok (.getfield 22, 3) := by decide +kernel
theorem dX7_snapshotCount_13 : decode cX7_snapshotCount 13 = .ok (.iload_n 2, 1) := by decide +kernel
theorem dX7_snapshotCount_14 : decode cX7_snapshotCount 14 = .ok (.baload, 1) := by decide +kernel
theorem dX7_snapshotCount_15 : decode cX7_snapshotCount 15 = .ok (.ifCond .eq 6, 3) := by decide +kernel
theorem dX7_snapshotCount_18 : decode cX7_snapshotCount 18 = .ok (.iinc 1 1, 3) := by decide +kernel
theorem dX7_snapshotCount_21 : decode cX7_snapshotCount 21 = .ok (.iinc 2 1, 3) := by decide +kernel
theorem dX7_snapshotCount_24 : decode cX7_snapshotCount 24 = .ok (.goto (-20), 3) := by decide +kernel
theorem dX7_snapshotCount_27 : decode cX7_snapshotCount 27 = .ok (.iload_n 1, 1) := by decide +kernel
theorem dX7_snapshotCount_28 : decode cX7_snapshotCount 28 = .ok (.ireturn, 1) := by decide +kernel
theorem dX10_isWithin_0 : decode cX10_isWithin 0 = .ok (.iload_n 0, 1) := by decide +kernel
theorem dX10_isWithin_1 : decode cX10_isWithin 1 = .ok (.iload_n 1, 1) := by decide +kernel
theorem dX10_isWithin_2 : decode cX10_isWithin 2 = .ok (.if_icmp .lt 12, 3) := by decide +kernel
theorem dX10_isWithin_5 : decode cX10_isWithin 5 = .ok (.iload_n 0, 1) := by decide +kernel
theorem dX10_isWithin_6 : decode cX10_isWithin 6 = .ok (.iload_n 2, 1) := by decide +kernel
theorem dX10_isWithin_7 : decode cX10_isWithin 7 = .ok (.if_icmp .gt 7, 3) := by decide +kernel
theorem dX10_isWithin_10 : decode cX10_isWithin 10 = .ok (.iconst 1, 1) := by decide +kernel
theorem dX10_isWithin_11 : decode cX10_isWithin 11 = .ok (.goto 4, 3) := by decide +kernel
theorem dX10_isWithin_14 : decode cX10_isWithin 14 = .ok (.iconst 0, 1) := by decide +kernel
theorem dX10_isWithin_15 : decode cX10_isWithin 15 = .ok (.ireturn, 1) := by decide +kernel
theorem dX10_moduleAt_0 : decode cX10_moduleAt 0 = .ok (.iload_n 0, 1) := by decide +kernel
theorem dX10_moduleAt_1 : decode cX10_moduleAt 1 = .ok (.bipush 120, 2) := by decide +kernel
theorem dX10_moduleAt_3 : decode cX10_moduleAt 3 = .ok (.imul, 1) := by decide +kernel
theorem dX10_moduleAt_4 : decode cX10_moduleAt 4 = .ok (.iload_n 1, 1) := by decide +kernel
theorem dX10_moduleAt_5 : decode cX10_moduleAt 5 = .ok (.bipush 20, 2) := by decide +kernel
theorem dX10_moduleAt_7 : decode cX10_moduleAt 7 = .ok (.imul, 1) := by decide +kernel
theorem dX10_moduleAt_8 : decode cX10_moduleAt 8 = .ok (.iadd, 1) := by decide +kernel
theorem dX10_moduleAt_9 : decode cX10_moduleAt 9 = .ok (.iload_n 2, 1) := by decide +kernel
theorem dX10_moduleAt_10 : decode cX10_moduleAt 10 = .ok (.iadd, 1) := by decide +kernel
theorem dX10_moduleAt_11 : decode cX10_moduleAt 11 = .ok (.ireturn, 1) := by decide +kernel
theorem dX10_pageOf_0 : decode cX10_pageOf 0 = .ok (.iload_n 0, 1) := by decide +kernel
theorem dX10_pageOf_1 : decode cX10_pageOf 1 = .ok (.bipush 120, 2) := by decide +kernel
theorem dX10_pageOf_3 : decode cX10_pageOf 3 = .ok (.idiv, 1) := by decide +kernel
theorem dX10_pageOf_4 : decode cX10_pageOf 4 = .ok (.ireturn, 1) := by decide +kernel
theorem dX10_columnOf_0 : decode cX10_columnOf 0 = .ok (.iload_n 0, 1) := by decide +kernel
theorem dX10_columnOf_1 : decode cX10_columnOf 1 = .ok (.bipush 120, 2) := by decide +kernel
theorem dX10_columnOf_3 : decode cX10_columnOf 3 = .ok (.irem, 1) := by decide +kernel
theorem dX10_columnOf_4 : decode cX10_columnOf 4 = .ok (.bipush 20, 2) := by decide +kernel
theorem dX10_columnOf_6 : decode cX10_columnOf 6 = .ok (.idiv, 1) := by decide +kernel
theorem dX10_columnOf_7 : decode cX10_columnOf 7 = .ok (.ireturn, 1) := by decide +kernel
theorem dX10_rowOf_0 : decode cX10_rowOf 0 = .ok (.iload_n 0, 1) := by decide +kernel
theorem dX10_rowOf_1 : decode cX10_rowOf 1 = .ok (.bipush 20, 2) := by decide +kernel
theorem dX10_rowOf_3 : decode cX10_rowOf 3 = .ok (.irem, 1) := by decide +kernel
theorem dX10_rowOf_4 : decode cX10_rowOf 4 = .ok (.ireturn, 1) := by decide +kernel
theorem dX10_differenceOfRuns_0 : decode cX10_differenceOfRuns 0 = .ok (.iload_n 0, 1) := by decide +kernel
theorem dX10_differenceOfRuns_1 : decode cX10_differenceOfRuns 1 = .ok (.iload_n 1, 1) := by decide +kernel
theorem dX10_differenceOfRuns_2 : decode cX10_differenceOfRuns 2 = .ok (.iadd, 1) := by decide +kernel
theorem dX10_differenceOfRuns_3 : decode cX10_differenceOfRuns 3 = .ok (.iconst 1, 1) := by decide +kernel
theorem dX10_differenceOfRuns_4 : decode cX10_differenceOfRuns 4 = .ok (.isub, 1) := by decide +kernel
theorem dX10_differenceOfRuns_5 : decode cX10_differenceOfRuns 5 = .ok (.istore 4, 2) := by decide +kernel
theorem dX10_differenceOfRuns_7 : decode cX10_differenceOfRuns 7 = .ok (.iload_n 2, 1) := by decide +kernel
theorem dX10_differenceOfRuns_8 : decode cX10_differenceOfRuns 8 = .ok (.iload_n 3, 1) := by decide +kernel
theorem dX10_differenceOfRuns_9 : decode cX10_differenceOfRuns 9 = .ok (.iadd, 1) := by decide +kernel
theorem dX10_differenceOfRuns_10 : decode cX10_differenceOfRuns 10 = .ok (.iconst 1, 1) := by decide +kernel
theorem dX10_differenceOfRuns_11 : decode cX10_differenceOfRuns 11 = .ok (.isub, 1) := by decide +kernel
theorem dX10_differenceOfRuns_12 : decode cX10_differenceOfRuns 12 = .ok (.istore 5, 2) := by decide +kernel
theorem dX10_differenceOfRuns_14 : decode cX10_differenceOfRuns 14 = .ok (.iload 4, 2) := by decide +kernel
theorem dX10_differenceOfRuns_16 : decode cX10_differenceOfRuns 16 = .ok (.iload_n 2, 1) := by decide +kernel
theorem dX10_differenceOfRuns_17 : decode cX10_differenceOfRuns 17 = .ok (.if_icmp .ge 8, 3) := by decide +kernel
theorem dX10_differenceOfRuns_20 : decode cX10_differenceOfRuns 20 = .ok (.iload_n 2, 1) := by decide +kernel
theorem dX10_differenceOfRuns_21 : decode cX10_differenceOfRuns 21 = .ok (.iload 4, 2) := by decide +kernel
theorem dX10_differenceOfRuns_23 : decode cX10_differenceOfRuns 23 = .ok (.isub, 1) := by decide +kernel
theorem dX10_differenceOfRuns_24 : decode cX10_differenceOfRuns 24 = .ok (.ireturn, 1) := by decide +kernel
theorem dX10_differenceOfRuns_25 : decode cX10_differenceOfRuns 25 = .ok (.iload_n 0, 1) := by decide +kernel
theorem dX10_differenceOfRuns_26 : decode cX10_differenceOfRuns 26 = .ok (.iload 5, 2) := by decide +kernel
theorem dX10_differenceOfRuns_28 : decode cX10_differenceOfRuns 28 = .ok (.if_icmp .le 10, 3) := by decide +kernel
theorem dX10_differenceOfRuns_31 : decode cX10_differenceOfRuns 31 = .ok (.iload_n 0, 1) := by decide +kernel
theorem dX10_differenceOfRuns_32 : decode cX10_differenceOfRuns 32 = .ok (.iload 5, 2) := by decide +kernel
theorem dX10_differenceOfRuns_34 : decode cX10_differenceOfRuns 34 = .ok (.isub, 1) := by decide +kernel
theorem dX10_differenceOfRuns_35 : decode cX10_differenceOfRuns 35 = .ok (.goto 4, 3) := by decide +kernel
theorem dX10_differenceOfRuns_38 : decode cX10_differenceOfRuns 38 = .ok (.iconst 0, 1) := by decide +kernel
theorem dX10_differenceOfRuns_39 : decode cX10_differenceOfRuns 39 = .ok (.ireturn, 1) := by decide +kernel
theorem dJ9_abs_0f7a4_0 : decode cJ9_abs_0f7a4 0 = .ok (.iload_n 0, 1) := by decide +kernel
theorem dJ9_abs_0f7a4_1 : decode cJ9_abs_0f7a4 1 = .ok (.ifCond .ge 8, 3) := by decide +kernel
theorem dJ9_abs_0f7a4_4 : decode cJ9_abs_0f7a4 4 = .ok (.iload_n 0, 1) := by decide +kernel
theorem dJ9_abs_0f7a4_5 : decode cJ9_abs_0f7a4 5 = .ok (.ineg, 1) := by decide +kernel
theorem dJ9_abs_0f7a4_6 : decode cJ9_abs_0f7a4 6 = .ok (.goto 4, 3) := by decide +kernel
theorem dJ9_abs_0f7a4_9 : decode cJ9_abs_0f7a4 9 = .ok (.iload_n 0, 1) := by decide +kernel
theorem dJ9_abs_0f7a4_10 : decode cJ9_abs_0f7a4 10 = .ok (.ireturn, 1) := by decide +kernel
theorem dJ9_max_7cf53_0 : decode cJ9_max_7cf53 0 = .ok (.iload_n 0, 1) := by decide +kernel
theorem dJ9_max_7cf53_1 : decode cJ9_max_7cf53 1 = .ok (.iload_n 1, 1) := by decide +kernel
theorem dJ9_max_7cf53_2 : decode cJ9_max_7cf53 2 = .ok (.if_icmp .lt 7, 3) := by decide +kernel
theorem dJ9_max_7cf53_5 : decode cJ9_max_7cf53 5 = .ok (.iload_n 0, 1) := by decide +kernel
theorem dJ9_max_7cf53_6 : decode cJ9_max_7cf53 6 = .ok (.goto 4, 3) := by decide +kernel
theorem dJ9_max_7cf53_9 : decode cJ9_max_7cf53 9 = .ok (.iload_n 1, 1) := by decide +kernel
theorem dJ9_max_7cf53_10 : decode cJ9_max_7cf53 10 = .ok (.ireturn, 1) := by decide +kernel
theorem dJ9_min_7cf53_0 : decode cJ9_min_7cf53 0 = .ok (.iload_n 0, 1) := by decide +kernel
theorem dJ9_min_7cf53_1 : decode cJ9_min_7cf53 1 = .ok (.iload_n 1, 1) := by decide +kernel
theorem dJ9_min_7cf53_2 : decode cJ9_min_7cf53 2 = .ok (.if_icmp .gt 7, 3) := by decide +kernel
theorem dJ9_min_7cf53_5 : decode cJ9_min_7cf53 5 = .ok (.iload_n 0, 1) := by decide +kernel
theorem dJ9_min_7cf53_6 : decode cJ9_min_7cf53 6 = .ok (.goto 4, 3) := by decide +kernel
theorem dJ9_min_7cf53_9 : decode cJ9_min_7cf53 9 = .ok (.iload_n 1, 1) := by decide +kernel
theorem dJ9_min_7cf53_10 : decode cJ9_min_7cf53 10 = .ok (.ireturn, 1) := by decide +kernel
theorem dJ7_fill_53178_0 : decode cJ7_fill_53178 0 = .ok (.iconst 0, 1) := by decide +kernel
theorem dJ7_fill_53178_1 : decode cJ7_fill_53178 1 = .ok (.istore_n 2, 1) := by decide +kernel
theorem dJ7_fill_53178_2 : decode cJ7_fill_53178 2 = .ok (.aload_n 0, 1) := by decide +kernel
theorem dJ7_fill_53178_3 : decode cJ7_fill_53178 3 = .ok (.arraylength, 1) := by decide +kernel
theorem dJ7_fill_53178_4 : decode cJ7_fill_53178 4 = .ok (.istore_n 3, 1) := by decide +kernel
theorem dJ7_fill_53178_5 : decode cJ7_fill_53178 5 = .ok (.iload_n 2, 1) := by decide +kernel
theorem dJ7_fill_53178_6 : decode cJ7_fill_53178 6 = .ok (.iload_n 3, 1) := by decide +kernel
theorem dJ7_fill_53178_7 : decode cJ7_fill_53178 7 = .ok (.if_icmp .ge 13, 3) := by decide +kernel
theorem dJ7_fill_53178_10 : decode cJ7_fill_53178 10 = .ok (.aload_n 0, 1) := by decide +kernel
theorem dJ7_fill_53178_11 : decode cJ7_fill_53178 11 = .ok (.iload_n 2, 1) := by decide +kernel
theorem dJ7_fill_53178_12 : decode cJ7_fill_53178 12 = .ok (.iload_n 1, 1) := by decide +kernel
theorem dJ7_fill_53178_13 : decode cJ7_fill_53178 13 = .ok (.iastore, 1) := by decide +kernel
theorem dJ7_fill_53178_14 : decode cJ7_fill_53178 14 = .ok (.iinc 2 1, 3) := by decide +kernel
theorem dJ7_fill_53178_17 : decode cJ7_fill_53178 17 = .ok (.goto (-12), 3) := by decide +kernel
theorem dJ7_fill_53178_20 : decode cJ7_fill_53178 20 = .ok (.return_, 1) := by decide +kernel
theorem dL_low_0 : decode cL_low 0 = .ok (.iload_n 0, 1) := by decide +kernel
theorem dL_low_1 : decode cL_low 1 = .ok (.ldc 7, 2) := by decide +kernel
theorem dL_low_3 : decode cL_low 3 = .ok (.iand, 1) := by decide +kernel
theorem dL_low_4 : decode cL_low 4 = .ok (.iload_n 1, 1) := by decide +kernel
theorem dL_low_5 : decode cL_low 5 = .ok (.irem, 1) := by decide +kernel
theorem dL_low_6 : decode cL_low 6 = .ok (.ireturn, 1) := by decide +kernel
theorem dX0_leastLength_0 : decode cX0_leastLength 0 = .ok (.iconst 1, 1) := by decide +kernel
theorem dX0_leastLength_1 : decode cX0_leastLength 1 = .ok (.istore_n 1, 1) := by decide +kernel
theorem dX0_leastLength_2 : decode cX0_leastLength 2 = .ok (.iconst 0, 1) := by decide +kernel
theorem dX0_leastLength_3 : decode cX0_leastLength 3 = .ok (.istore_n 2, 1) := by decide +kernel
theorem dX0_leastLength_4 : decode cX0_leastLength 4 = .ok (.iload_n 2, 1) := by decide +kernel
theorem dX0_leastLength_5 : decode cX0_leastLength 5 = .ok (.aload_n 0, 1) := by decide +kernel
theorem dX0_leastLength_6 : decode cX0_leastLength 6 = .ok (.getfield 22, 3) := by decide +kernel
theorem dX0_leastLength_9 : decode cX0_leastLength 9 = .ok (.if_icmp .ge 22, 3) := by decide +kernel
theorem dX0_leastLength_12 : decode cX0_leastLength 12 = .ok (.iload_n 1, 1) := by decide +kernel
theorem dX0_leastLength_13 : decode cX0_leastLength 13 = .ok (.aload_n 0, 1) := by decide +kernel
theorem dX0_leastLength_14 : decode cX0_leastLength 14 = .ok (.getfield 9, 3) := by decide +kernel
theorem dX0_leastLength_17 : decode cX0_leastLength 17 = .ok (.iload_n 2, 1) := by decide +kernel
theorem dX0_leastLength_18 : decode cX0_leastLength 18 = .ok (.iaload, 1) := by decide +kernel
theorem dX0_leastLength_19 : decode cX0_leastLength 19 = .ok (.iconst 1, 1) := by decide +kernel
theorem dX0_leastLength_20 : decode cX0_leastLength 20 = .ok (.iadd, 1) := by decide +kernel
theorem dX0_leastLength_21 : decode cX0_leastLength 21 = .ok (.invokestatic 31, 3) := by decide +kernel
theorem dX0_leastLength_24 : decode cX0_leastLength 24 = .ok (.istore_n 1, 1) := by decide +kernel
theorem dX0_leastLength_25 : decode cX0_leastLength 25 = .ok (.iinc 2 1, 3) := by decide +kernel
theorem dX0_leastLength_28 : decode cX0_leastLength 28 = .ok (.goto (-24), 3) := by decide +kernel
theorem dX0_leastLength_31 : decode cX0_leastLength 31 = .ok (.iload_n 1, 1) := by decide +kernel
theorem dX0_leastLength_32 : decode cX0_leastLength 32 = .ok (.ireturn, 1) := by decide +kernel
theorem dX1_copyFrom_0 : decode cX1_copyFrom 0 = .ok (.aload_n 0, 1) := by decide +kernel
theorem dX1_copyFrom_1 : decode cX1_copyFrom 1 = .ok (.aload_n 1, 1) := by decide +kernel
theorem dX1_copyFrom_2 : decode cX1_copyFrom 2 = .ok (.getfield 29, 3) := by decide +kernel
theorem dX1_copyFrom_5 : decode cX1_copyFrom 5 = .ok (.putfield 29, 3) := by decide +kernel
theorem dX1_copyFrom_8 : decode cX1_copyFrom 8 = .ok (.iconst 0, 1) := by decide +kernel
theorem dX1_copyFrom_9 : decode cX1_copyFrom 9 = .ok (.istore_n 2, 1) := by decide +kernel
theorem dX1_copyFrom_10 : decode cX1_copyFrom 10 = .ok (.iload_n 2, 1) := by decide +kernel
theorem dX1_copyFrom_11 : decode cX1_copyFrom 11 = .ok (.aload_n 0, 1) := by decide +kernel
theorem dX1_copyFrom_12 : decode cX1_copyFrom 12 = .ok (.getfield 29, 3) := by decide +kernel
theorem dX1_copyFrom_15 : decode cX1_copyFrom 15 = .ok (.if_icmp .ge 24, 3) := by decide +kernel
theorem dX1_copyFrom_18 : decode cX1_copyFrom 18 = .ok (.aload_n 0, 1) := by decide +kernel
theorem dX1_copyFrom_19 : decode cX1_copyFrom 19 = .ok (.getfield 11, 3) := by decide +kernel
theorem dX1_copyFrom_22 : decode cX1_copyFrom 22 = .ok (.iload_n 2, 1) := by decide +kernel
theorem dX1_copyFrom_23 : decode cX1_copyFrom 23 = .ok (.aaload, 1) := by decide +kernel
theorem dX1_copyFrom_24 : decode cX1_copyFrom 24 = .ok (.aload_n 1, 1) := by decide +kernel
theorem dX1_copyFrom_25 : decode cX1_copyFrom 25 = .ok (.getfield 11, 3) := by decide +kernel
theorem dX1_copyFrom_28 : decode cX1_copyFrom 28 = .ok (.iload_n 2, 1) := by decide +kernel
theorem dX1_copyFrom_29 : decode cX1_copyFrom 29 = .ok (.aaload, 1) := by decide +kernel
theorem dX1_copyFrom_30 : decode cX1_copyFrom 30 = .ok (.invokevirtual 33, 3) := by decide +kernel
theorem dX1_copyFrom_33 : decode cX1_copyFrom 33 = .ok (.iinc 2 1, 3) := by decide +kernel
theorem dX1_copyFrom_36 : decode cX1_copyFrom 36 = .ok (.goto (-26), 3) := by decide +kernel
theorem dX1_copyFrom_39 : decode cX1_copyFrom 39 = .ok (.aload_n 0, 1) := by decide +kernel
theorem dX1_copyFrom_40 : decode cX1_copyFrom 40 = .ok (.aload_n 1, 1) := by decide +kernel
theorem dX1_copyFrom_41 : decode cX1_copyFrom 41 = .ok (.getfield 37, 3) := by decide +kernel
theorem dX1_copyFrom_44 : decode cX1_copyFrom 44 = .ok (.putfield 37, 3) := by decide +kernel
theorem dX1_copyFrom_47 : decode cX1_copyFrom 47 = .ok (.iconst 0, 1) := by decide +kernel
theorem dX1_copyFrom_48 : decode cX1_copyFrom 48 = .ok (.istore_n 2, 1) := by decide +kernel
theorem dX1_copyFrom_49 : decode cX1_copyFrom 49 = .ok (.iload_n 2, 1) := by decide +kernel
theorem dX1_copyFrom_50 : decode cX1_copyFrom 50 = .ok (.aload_n 0, 1) := by decide +kernel
theorem dX1_copyFrom_51 : decode cX1_copyFrom 51 = .ok (.getfield 37, 3) := by decide +kernel
theorem dX1_copyFrom_54 : decode cX1_copyFrom 54 = .ok (.if_icmp .ge 24, 3) := by decide +kernel
theorem dX1_copyFrom_57 : decode cX1_copyFrom 57 = .ok (.aload_n 0, 1) := by decide +kernel
theorem dX1_copyFrom_58 : decode cX1_copyFrom 58 = .ok (.getfield 19, 3) := by decide +kernel
theorem dX1_copyFrom_61 : decode cX1_copyFrom 61 = .ok (.iload_n 2, 1) := by decide +kernel
theorem dX1_copyFrom_62 : decode cX1_copyFrom 62 = .ok (.aaload, 1) := by decide +kernel
theorem dX1_copyFrom_63 : decode cX1_copyFrom 63 = .ok (.aload_n 1, 1) := by decide +kernel
theorem dX1_copyFrom_64 : decode cX1_copyFrom 64 = .ok (.getfield 19, 3) := by decide +kernel
theorem dX1_copyFrom_67 : decode cX1_copyFrom 67 = .ok (.iload_n 2, 1) := by decide +kernel
theorem dX1_copyFrom_68 : decode cX1_copyFrom 68 = .ok (.aaload, 1) := by decide +kernel
theorem dX1_copyFrom_69 : decode cX1_copyFrom 69 = .ok (.invokevirtual 40, 3) := by decide +kernel
theorem dX1_copyFrom_72 : decode cX1_copyFrom 72 = .ok (.iinc 2 1, 3) := by decide +kernel
theorem dX1_copyFrom_75 : decode cX1_copyFrom 75 = .ok (.goto (-26), 3) := by decide +kernel
theorem dX1_copyFrom_78 : decode cX1_copyFrom 78 = .ok (.aload_n 1, 1) := by decide +kernel
theorem dX1_copyFrom_79 : decode cX1_copyFrom 79 = .ok (.getfield 23, 3) := by decide +kernel
theorem dX1_copyFrom_82 : decode cX1_copyFrom 82 = .ok (.iconst 0, 1) := by decide +kernel
theorem dX1_copyFrom_83 : decode cX1_copyFrom 83 = .ok (.aload_n 0, 1) := by decide +kernel
theorem dX1_copyFrom_84 : decode cX1_copyFrom 84 = .ok (.getfield 23, 3) := by decide +kernel
theorem dX1_copyFrom_87 : decode cX1_copyFrom 87 = .ok (.iconst 0, 1) := by decide +kernel
theorem dX1_copyFrom_88 : decode cX1_copyFrom 88 = .ok (.iconst 3, 1) := by decide +kernel
theorem dX1_copyFrom_89 : decode cX1_copyFrom 89 = .ok (.invokestatic 43, 3) := by decide +kernel
theorem dX1_copyFrom_92 : decode cX1_copyFrom 92 = .ok (.return_, 1) := by decide +kernel
theorem dX1_hasArticle_0 : decode cX1_hasArticle 0 = .ok (.iload_n 1, 1) := by decide +kernel
theorem dX1_hasArticle_1 : decode cX1_hasArticle 1 = .ok (.iconst 0, 1) := by decide +kernel
theorem dX1_hasArticle_2 : decode cX1_hasArticle 2 = .ok (.aload_n 0, 1) := by decide +kernel
theorem dX1_hasArticle_3 : decode cX1_hasArticle 3 = .ok (.getfield 29, 3) := by decide +kernel
theorem dX1_hasArticle_6 : decode cX1_hasArticle 6 = .ok (.iconst 1, 1) := by decide +kernel
theorem dX1_hasArticle_7 : decode cX1_hasArticle 7 = .ok (.isub, 1) := by decide +kernel
theorem dX1_hasArticle_8 : decode cX1_hasArticle 8 = .ok (.invokestatic 49, 3) := by decide +kernel
theorem dX1_hasArticle_11 : decode cX1_hasArticle 11 = .ok (.ireturn, 1) := by decide +kernel
theorem dX1_hasQuote_0 : decode cX1_hasQuote 0 = .ok (.iload_n 1, 1) := by decide +kernel
theorem dX1_hasQuote_1 : decode cX1_hasQuote 1 = .ok (.iconst 0, 1) := by decide +kernel
theorem dX1_hasQuote_2 : decode cX1_hasQuote 2 = .ok (.aload_n 0, 1) := by decide +kernel
theorem dX1_hasQuote_3 : decode cX1_hasQuote 3 = .ok (.getfield 37, 3) := by decide +kernel
theorem dX1_hasQuote_6 : decode cX1_hasQuote 6 = .ok (.iconst 1, 1) := by decide +kernel
theorem dX1_hasQuote_7 : decode cX1_hasQuote 7 = .ok (.isub, 1) := by decide +kernel
theorem dX1_hasQuote_8 : decode cX1_hasQuote 8 = .ok (.invokestatic 49, 3) := by decide +kernel
theorem dX1_hasQuote_11 : decode cX1_hasQuote 11 = .ok (.ireturn, 1) := by decide +kernel
theorem dX2_pour_0 : decode cX2_pour 0 = .ok (.aload_n 0, 1) := by decide +kernel
theorem dX2_pour_1 : decode cX2_pour 1 = .ok (.iconst 0, 1) := by decide +kernel
theorem dX2_pour_2 : decode cX2_pour 2 = .ok (.putfield 18, 3) := by decide +kernel
theorem dX2_pour_5 : decode cX2_pour 5 = .ok (.aload_n 0, 1) := by decide +kernel
theorem dX2_pour_6 : decode cX2_pour 6 = .ok (.iconst 0, 1) := by decide +kernel
theorem dX2_pour_7 : decode cX2_pour 7 = .ok (.putfield 22, 3) := by decide +kernel
theorem dX2_pour_10 : decode cX2_pour 10 = .ok (.aload_n 0, 1) := by decide +kernel
theorem dX2_pour_11 : decode cX2_pour 11 = .ok (.getfield 15, 3) := by decide +kernel
theorem dX2_pour_14 : decode cX2_pour 14 = .ok (.iconst 0, 1) := by decide +kernel
theorem dX2_pour_15 : decode cX2_pour 15 = .ok (.invokestatic 25, 3) := by decide +kernel
theorem dX2_pour_18 : decode cX2_pour 18 = .ok (.aload_n 1, 1) := by decide +kernel
theorem dX2_pour_19 : decode cX2_pour 19 = .ok (.getfield 31, 3) := by decide +kernel
theorem dX2_pour_22 : decode cX2_pour 22 = .ok (.sipush 200, 3) := by decide +kernel
theorem dX2_pour_25 : decode cX2_pour 25 = .ok (.invokestatic 36, 3) := by decide +kernel
theorem dX2_pour_28 : decode cX2_pour 28 = .ok (.istore 4, 2) := by decide +kernel
theorem dX2_pour_30 : decode cX2_pour 30 = .ok (.bipush (-99), 2) := by decide +kernel
theorem dX2_pour_32 : decode cX2_pour 32 = .ok (.istore 5, 2) := by decide +kernel
theorem dX2_pour_34 : decode cX2_pour 34 = .ok (.aload_n 1, 1) := by decide +kernel
theorem dX2_pour_35 : decode cX2_pour 35 = .ok (.getfield 42, 3) := by decide +kernel
theorem dX2_pour_38 : decode cX2_pour 38 = .ok (.istore 6, 2) := by decide +kernel
theorem dX2_pour_40 : decode cX2_pour 40 = .ok (.iload 6, 2) := by decide +kernel
theorem dX2_pour_42 : decode cX2_pour 42 = .ok (.sipush 360, 3) := by decide +kernel
theorem dX2_pour_45 : decode cX2_pour 45 = .ok (.if_icmp .ge 110, 3) := by decide +kernel
theorem dX2_pour_48 : decode cX2_pour 48 = .ok (.aload_n 0, 1) := by decide +kernel
theorem dX2_pour_49 : decode cX2_pour 49 = .ok (.getfield 18, 3) := by decide +kernel
theorem dX2_pour_52 : decode cX2_pour 52 = .ok (.iload 4, 2) := by decide +kernel
theorem dX2_pour_54 : decode cX2_pour 54 = .ok (.if_icmp .ge 101, 3) := by decide +kernel
theorem dX2_pour_57 : decode cX2_pour 57 = .ok (.aload_n 3, 1) := by decide +kernel
theorem dX2_pour_58 : decode cX2_pour 58 = .ok (.iload 6, 2) := by decide +kernel
theorem dX2_pour_60 : decode cX2_pour 60 = .ok (.iaload, 1) := by decide +kernel
theorem dX2_pour_61 : decode cX2_pour 61 = .ok (.ifCond .ne 88, 3) := by decide +kernel
theorem dX2_pour_64 : decode cX2_pour 64 = .ok (.iload 6, 2) := by decide +kernel
theorem dX2_pour_66 : decode cX2_pour 66 = .ok (.invokestatic 45, 3) := by decide +kernel
theorem dX2_pour_69 : decode cX2_pour 69 = .ok (.istore 7, 2) := by decide +kernel
theorem dX2_pour_71 : decode cX2_pour 71 = .ok (.aload_n 0, 1) := by decide +kernel
theorem dX2_pour_72 : decode cX2_pour 72 = .ok (.getfield 18, 3) := by decide +kernel
theorem dX2_pour_75 : decode cX2_pour 75 = .ok (.ifCond .le 31, 3) := by decide +kernel
theorem dX2_pour_78 : decode cX2_pour 78 = .ok (.iload 7, 2) := by decide +kernel
theorem dX2_pour_80 : decode cX2_pour 80 = .ok (.iload 5, 2) := by decide +kernel
theorem dX2_pour_82 : decode cX2_pour 82 = .ok (.if_icmp .eq 24, 3) := by decide +kernel
theorem dX2_pour_85 : decode cX2_pour 85 = .ok (.aload_n 3, 1) := by decide +kernel
theorem dX2_pour_86 : decode cX2_pour 86 = .ok (.iload 6, 2) := by decide +kernel
theorem dX2_pour_88 : decode cX2_pour 88 = .ok (.bipush 11, 2) := by decide +kernel
theorem dX2_pour_90 : decode cX2_pour 90 = .ok (.iload_n 2, 1) := by decide +kernel
theorem dX2_pour_91 : decode cX2_pour 91 = .ok (.iadd, 1) := by decide +kernel
theorem dX2_pour_92 : decode cX2_pour 92 = .ok (.iastore, 1) := by decide +kernel
theorem dX2_pour_93 : decode cX2_pour 93 = .ok (.aload_n 0, 1) := by decide +kernel
theorem dX2_pour_94 : decode cX2_pour 94 = .ok (.dup, 1) := by decide +kernel
theorem dX2_pour_95 : decode cX2_pour 95 = .ok (.getfield 22, 3) := by decide +kernel
theorem dX2_pour_98 : decode cX2_pour 98 = .ok (.iconst 1, 1) := by decide +kernel
theorem dX2_pour_99 : decode cX2_pour 99 = .ok (.iadd, 1) := by decide +kernel
theorem dX2_pour_100 : decode cX2_pour 100 = .ok (.putfield 22, 3) := by decide +kernel
theorem dX2_pour_103 : decode cX2_pour 103 = .ok (.goto 42, 3) := by decide +kernel
theorem dX2_pour_106 : decode cX2_pour 106 = .ok (.aload_n 3, 1) := by decide +kernel
theorem dX2_pour_107 : decode cX2_pour 107 = .ok (.iload 6, 2) := by decide +kernel
theorem dX2_pour_109 : decode cX2_pour 109 = .ok (.iconst 1, 1) := by decide +kernel
theorem dX2_pour_110 : decode cX2_pour 110 = .ok (.iload_n 2, 1) := by decide +kernel
theorem dX2_pour_111 : decode cX2_pour 111 = .ok (.iadd, 1) := by decide +kernel
theorem dX2_pour_112 : decode cX2_pour 112 = .ok (.iastore, 1) := by decide +kernel
theorem dX2_pour_113 : decode cX2_pour 113 = .ok (.aload_n 0, 1) := by decide +kernel
theorem dX2_pour_114 : decode cX2_pour 114 = .ok (.getfield 9, 3) := by decide +kernel
theorem dX2_pour_117 : decode cX2_pour 117 = .ok (.aload_n 0, 1) := by decide +kernel
theorem dX2_pour_118 : decode cX2_pour 118 = .ok (.getfield 18, 3) := by decide +kernel
theorem dX2_pour_121 : decode cX2_pour 121 = .ok (.iload 6, 2) := by decide +kernel
theorem dX2_pour_123 : decode cX2_pour 123 = .ok (.iastore, 1) := by decide +kernel
theorem dX2_pour_124 : decode cX2_pour 124 = .ok (.aload_n 0, 1) := by decide +kernel
theorem dX2_pour_125 : decode cX2_pour 125 = .ok (.getfield 15, 3) := by decide +kernel
theorem dX2_pour_128 : decode cX2_pour 128 = .ok (.iload 7, 2) := by decide +kernel
theorem dX2_pour_130 : decode cX2_pour 130 = .ok (.dup2, 1) := by decide +kernel
theorem dX2_pour_131 : decode cX2_pour 131 = .ok (.iaload, 1) := by decide +kernel
theorem dX2_pour_132 : decode cX2_pour 132 = .ok (.iconst 1, 1) := by decide +kernel
theorem dX2_pour_133 : decode cX2_pour 133 = .ok (.iadd, 1) := by decide +kernel
theorem dX2_pour_134 : decode cX2_pour 134 = .ok (.iastore, 1) := by decide +kernel
theorem dX2_pour_135 : decode cX2_pour 135 = .ok (.aload_n 0, 1) := by decide +kernel
theorem dX2_pour_136 : decode cX2_pour 136 = .ok (.dup, 1) := by decide +kernel
theorem dX2_pour_137 : decode cX2_pour 137 = .ok (.getfield 18, 3) := by decide +kernel
theorem dX2_pour_140 : decode cX2_pour 140 = .ok (.iconst 1, 1) := by decide +kernel
theorem dX2_pour_141 : decode cX2_pour 141 = .ok (.iadd, 1) := by decide +kernel
theorem dX2_pour_142 : decode cX2_pour 142 = .ok (.putfield 18, 3) := by decide +kernel
theorem dX2_pour_145 : decode cX2_pour 145 = .ok (.iload 7, 2) := by decide +kernel
theorem dX2_pour_147 : decode cX2_pour 147 = .ok (.istore 5, 2) := by decide +kernel
theorem dX2_pour_149 : decode cX2_pour 149 = .ok (.iinc 6 1, 3) := by decide +kernel
theorem dX2_pour_152 : decode cX2_pour 152 = .ok (.goto (-112), 3) := by decide +kernel
theorem dX2_pour_155 : decode cX2_pour 155 = .ok (.aload_n 0, 1) := by decide +kernel
theorem dX2_pour_156 : decode cX2_pour 156 = .ok (.aload_n 1, 1) := by decide +kernel
theorem dX2_pour_157 : decode cX2_pour 157 = .ok (.getfield 31, 3) := by decide +kernel
theorem dX2_pour_160 : decode cX2_pour 160 = .ok (.aload_n 0, 1) := by decide +kernel
theorem dX2_pour_161 : decode cX2_pour 161 = .ok (.getfield 18, 3) := by decide +kernel
theorem dX2_pour_164 : decode cX2_pour 164 = .ok (.isub, 1) := by decide +kernel
theorem dX2_pour_165 : decode cX2_pour 165 = .ok (.putfield 49, 3) := by decide +kernel
theorem dX2_pour_168 : decode cX2_pour 168 = .ok (.return_, 1) := by decide +kernel
theorem dX2_moduleOf_0 : decode cX2_moduleOf 0 = .ok (.iload_n 1, 1) := by decide +kernel
theorem dX2_moduleOf_1 : decode cX2_moduleOf 1 = .ok (.iconst 0, 1) := by decide +kernel
theorem dX2_moduleOf_2 : decode cX2_moduleOf 2 = .ok (.aload_n 0, 1) := by decide +kernel
theorem dX2_moduleOf_3 : decode cX2_moduleOf 3 = .ok (.getfield 18, 3) := by decide +kernel
theorem dX2_moduleOf_6 : decode cX2_moduleOf 6 = .ok (.iconst 1, 1) := by decide +kernel
theorem dX2_moduleOf_7 : decode cX2_moduleOf 7 = .ok (.isub, 1) := by decide +kernel
theorem dX2_moduleOf_8 : decode cX2_moduleOf 8 = .ok (.invokestatic 52, 3) := by decide +kernel
theorem dX2_moduleOf_11 : decode cX2_moduleOf 11 = .ok (.ifCond .eq 12, 3) := by decide +kernel
theorem dX2_moduleOf_14 : decode cX2_moduleOf 14 = .ok (.aload_n 0, 1) := by decide +kernel
theorem dX2_moduleOf_15 : decode cX2_moduleOf 15 = .ok (.getfield 9, 3) := by decide +kernel
theorem dX2_moduleOf_18 : decode cX2_moduleOf 18 = .ok (.iload_n 1, 1) := by decide +kernel
theorem dX2_moduleOf_19 : decode cX2_moduleOf 19 = .ok (.iaload, 1) := by decide +kernel
theorem dX2_moduleOf_20 : decode cX2_moduleOf 20 = .ok (.goto 5, 3) := by decide +kernel
theorem dX2_moduleOf_23 : decode cX2_moduleOf 23 = .ok (.bipush (-99), 2) := by decide +kernel
theorem dX2_moduleOf_25 : decode cX2_moduleOf 25 = .ok (.ireturn, 1) := by decide +kernel
theorem dX4_cover_0 : decode cX4_cover 0 = .ok (.aload_n 1, 1) := by decide +kernel
theorem dX4_cover_1 : decode cX4_cover 1 = .ok (.getfield 60, 3) := by decide +kernel
theorem dX4_cover_4 : decode cX4_cover 4 = .ok (.aload_n 1, 1) := by decide +kernel
theorem dX4_cover_5 : decode cX4_cover 5 = .ok (.getfield 63, 3) := by decide +kernel
theorem dX4_cover_8 : decode cX4_cover 8 = .ok (.iadd, 1) := by decide +kernel
theorem dX4_cover_9 : decode cX4_cover 9 = .ok (.bipush 6, 2) := by decide +kernel
theorem dX4_cover_11 : decode cX4_cover 11 = .ok (.invokestatic 66, 3) := by decide +kernel
theorem dX4_cover_14 : decode cX4_cover 14 = .ok (.iconst 1, 1) := by decide +kernel
theorem dX4_cover_15 : decode cX4_cover 15 = .ok (.isub, 1) := by decide +kernel
theorem dX4_cover_16 : decode cX4_cover 16 = .ok (.istore_n 3, 1) := by decide +kernel
theorem dX4_cover_17 : decode cX4_cover 17 = .ok (.aload_n 1, 1) := by decide +kernel
theorem dX4_cover_18 : decode cX4_cover 18 = .ok (.getfield 72, 3) := by decide +kernel
theorem dX4_cover_21 : decode cX4_cover 21 = .ok (.aload_n 1, 1) := by decide +kernel
theorem dX4_cover_22 : decode cX4_cover 22 = .ok (.getfield 75, 3) := by decide +kernel
theorem dX4_cover_25 : decode cX4_cover 25 = .ok (.iadd, 1) := by decide +kernel
theorem dX4_cover_26 : decode cX4_cover 26 = .ok (.bipush 20, 2) := by decide +kernel
theorem dX4_cover_28 : decode cX4_cover 28 = .ok (.invokestatic 66, 3) := by decide +kernel
theorem dX4_cover_31 : decode cX4_cover 31 = .ok (.iconst 1, 1) := by decide +kernel
theorem dX4_cover_32 : decode cX4_cover 32 = .ok (.isub, 1) := by decide +kernel
theorem dX4_cover_33 : decode cX4_cover 33 = .ok (.istore 4, 2) := by decide +kernel
theorem dX4_cover_35 : decode cX4_cover 35 = .ok (.aload_n 1, 1) := by decide +kernel
theorem dX4_cover_36 : decode cX4_cover 36 = .ok (.getfield 60, 3) := by decide +kernel
theorem dX4_cover_39 : decode cX4_cover 39 = .ok (.istore 5, 2) := by decide +kernel
theorem dX4_cover_41 : decode cX4_cover 41 = .ok (.iload 5, 2) := by decide +kernel
theorem dX4_cover_43 : decode cX4_cover 43 = .ok (.iload_n 3, 1) := by decide +kernel
theorem dX4_cover_44 : decode cX4_cover 44 = .ok (.if_icmp .gt 45, 3) := by decide +kernel
theorem dX4_cover_47 : decode cX4_cover 47 = .ok (.aload_n 1, 1) := by decide +kernel
theorem dX4_cover_48 : decode cX4_cover 48 = .ok (.getfield 72, 3) := by decide +kernel
theorem dX4_cover_51 : decode cX4_cover 51 = .ok (.istore 6, 2) := by decide +kernel
theorem dX4_cover_53 : decode cX4_cover 53 = .ok (.iload 6, 2) := by decide +kernel
theorem dX4_cover_55 : decode cX4_cover 55 = .ok (.iload 4, 2) := by decide +kernel
theorem dX4_cover_57 : decode cX4_cover 57 = .ok (.if_icmp .gt 26, 3) := by decide +kernel
theorem dX4_cover_60 : decode cX4_cover 60 = .ok (.aload_n 0, 1) := by decide +kernel
theorem dX4_cover_61 : decode cX4_cover 61 = .ok (.getfield 9, 3) := by decide +kernel
theorem dX4_cover_64 : decode cX4_cover 64 = .ok (.aload_n 1, 1) := by decide +kernel
theorem dX4_cover_65 : decode cX4_cover 65 = .ok (.getfield 78, 3) := by decide +kernel
theorem dX4_cover_68 : decode cX4_cover 68 = .ok (.iload 5, 2) := by decide +kernel
theorem dX4_cover_70 : decode cX4_cover 70 = .ok (.iload 6, 2) := by decide +kernel
theorem dX4_cover_72 : decode cX4_cover 72 = .ok (.invokestatic 81, 3) := by decide +kernel
theorem dX4_cover_75 : decode cX4_cover 75 = .ok (.iload_n 2, 1) := by decide +kernel
theorem dX4_cover_76 : decode cX4_cover 76 = .ok (.iastore, 1) := by decide +kernel
theorem dX4_cover_77 : decode cX4_cover 77 = .ok (.iinc 6 1, 3) := by decide +kernel
theorem dX4_cover_80 : decode cX4_cover 80 = .ok (.goto (-27), 3) := by decide +kernel
theorem dX4_cover_83 : decode cX4_cover 83 = .ok (.iinc 5 1, 3) := by decide +kernel
theorem dX4_cover_86 : decode cX4_cover 86 = .ok (.goto (-45), 3) := by decide +kernel
theorem dX4_cover_89 : decode cX4_cover 89 = .ok (.return_, 1) := by decide +kernel
theorem dX5_moveTo_0 : decode cX5_moveTo 0 = .ok (.aload_n 0, 1) := by decide +kernel
theorem dX5_moveTo_1 : decode cX5_moveTo 1 = .ok (.iconst 1, 1) := by decide +kernel
theorem dX5_moveTo_2 : decode cX5_moveTo 2 = .ok (.putfield 24, 3) := by decide +kernel
theorem dX5_moveTo_5 : decode cX5_moveTo 5 = .ok (.aload_n 0, 1) := by decide +kernel
theorem dX5_moveTo_6 : decode cX5_moveTo 6 = .ok (.iload_n 1, 1) := by decide +kernel
theorem dX5_moveTo_7 : decode cX5_moveTo 7 = .ok (.invokestatic 37, 3) := by decide +kernel
theorem dX5_moveTo_10 : decode cX5_moveTo 10 = .ok (.putfield 28, 3) := by decide +kernel
theorem dX5_moveTo_13 : decode cX5_moveTo 13 = .ok (.aload_n 0, 1) := by decide +kernel
theorem dX5_moveTo_14 : decode cX5_moveTo 14 = .ok (.iload_n 1, 1) := by decide +kernel
theorem dX5_moveTo_15 : decode cX5_moveTo 15 = .ok (.invokestatic 41, 3) := by decide +kernel
theorem dX5_moveTo_18 : decode cX5_moveTo 18 = .ok (.putfield 31, 3) := by decide +kernel
theorem dX5_moveTo_21 : decode cX5_moveTo 21 = .ok (.aload_n 0, 1) := by decide +kernel
theorem dX5_moveTo_22 : decode cX5_moveTo 22 = .ok (.iload_n 1, 1) := by decide +kernel
theorem dX5_moveTo_23 : decode cX5_moveTo 23 = .ok (.invokestatic 44, 3) := by decide +kernel
theorem dX5_moveTo_26 : decode cX5_moveTo 26 = .ok (.putfield 34, 3) := by decide +kernel
theorem dX5_moveTo_29 : decode cX5_moveTo 29 = .ok (.return_, 1) := by decide +kernel
theorem dX5_leaning_0 : decode cX5_leaning 0 = .ok (.iconst 0, 1) := by decide +kernel
theorem dX5_leaning_1 : decode cX5_leaning 1 = .ok (.aload_n 0, 1) := by decide +kernel
theorem dX5_leaning_2 : decode cX5_leaning 2 = .ok (.getfield 18, 3) := by decide +kernel
theorem dX5_leaning_5 : decode cX5_leaning 5 = .ok (.iconst 3, 1) := by decide +kernel
theorem dX5_leaning_6 : decode cX5_leaning 6 = .ok (.aload_n 0, 1) := by decide +kernel
theorem dX5_leaning_7 : decode cX5_leaning 7 = .ok (.getfield 31, 3) := by decide +kernel
theorem dX5_leaning_10 : decode cX5_leaning 10 = .ok (.isub, 1) := by decide +kernel
theorem dX5_leaning_11 : decode cX5_leaning 11 = .ok (.invokestatic 47, 3) := by decide +kernel
theorem dX5_leaning_14 : decode cX5_leaning 14 = .ok (.invokestatic 53, 3) := by decide +kernel
theorem dX5_leaning_17 : decode cX5_leaning 17 = .ok (.istore_n 1, 1) := by decide +kernel
theorem dX5_leaning_18 : decode cX5_leaning 18 = .ok (.iconst 2, 1) := by decide +kernel
theorem dX5_leaning_19 : decode cX5_leaning 19 = .ok (.iload_n 1, 1) := by decide +kernel
theorem dX5_leaning_20 : decode cX5_leaning 20 = .ok (.imul, 1) := by decide +kernel
theorem dX5_leaning_21 : decode cX5_leaning 21 = .ok (.aload_n 0, 1) := by decide +kernel
theorem dX5_leaning_22 : decode cX5_leaning 22 = .ok (.getfield 18, 3) := by decide +kernel
theorem dX5_leaning_25 : decode cX5_leaning 25 = .ok (.isub, 1) := by decide +kernel
theorem dX5_leaning_26 : decode cX5_leaning 26 = .ok (.aload_n 0, 1) := by decide +kernel
theorem dX5_leaning_27 : decode cX5_leaning 27 = .ok (.getfield 21, 3) := by decide +kernel
theorem dX5_leaning_30 : decode cX5_leaning 30 = .ok (.imul, 1) := by decide +kernel
theorem dX5_leaning_31 : decode cX5_leaning 31 = .ok (.ireturn, 1) := by decide +kernel
theorem dX5_distanceFromModule_0 : decode cX5_distanceFromModule 0 = .ok (.aload_n 0, 1) := by decide +kernel
theorem dX5_distanceFromModule_1 : decode cX5_distanceFromModule 1 = .ok (.getfield 31, 3) := by decide +kernel
theorem dX5_distanceFromModule_4 : decode cX5_distanceFromModule 4 = .ok (.aload_n 0, 1) := by decide +kernel
theorem dX5_distanceFromModule_5 : decode cX5_distanceFromModule 5 = .ok (.getfield 18, 3) := by decide +kernel
theorem dX5_distanceFromModule_8 : decode cX5_distanceFromModule 8 = .ok (.iload_n 1, 1) := by decide +kernel
theorem dX5_distanceFromModule_9 : decode cX5_distanceFromModule 9 = .ok (.invokestatic 41, 3) := by decide +kernel
theorem dX5_distanceFromModule_12 : decode cX5_distanceFromModule 12 = .ok (.iconst 1, 1) := by decide +kernel
theorem dX5_distanceFromModule_13 : decode cX5_distanceFromModule 13 = .ok (.invokestatic 56, 3) := by decide +kernel
theorem dX5_distanceFromModule_16 : decode cX5_distanceFromModule 16 = .ok (.aload_n 0, 1) := by decide +kernel
theorem dX5_distanceFromModule_17 : decode cX5_distanceFromModule 17 = .ok (.getfield 34, 3) := by decide +kernel
theorem dX5_distanceFromModule_20 : decode cX5_distanceFromModule 20 = .ok (.aload_n 0, 1) := by decide +kernel
theorem dX5_distanceFromModule_21 : decode cX5_distanceFromModule 21 = .ok (.getfield 21, 3) := by decide +kernel
theorem dX5_distanceFromModule_24 : decode cX5_distanceFromModule 24 = .ok (.iload_n 1, 1) := by decide +kernel
theorem dX5_distanceFromModule_25 : decode cX5_distanceFromModule 25 = .ok (.invokestatic 44, 3) := by decide +kernel
theorem dX5_distanceFromModule_28 : decode cX5_distanceFromModule 28 = .ok (.iconst 1, 1) := by decide +kernel
theorem dX5_distanceFromModule_29 : decode cX5_distanceFromModule 29 = .ok (.invokestatic 56, 3) := by decide +kernel
theorem dX5_distanceFromModule_32 : decode cX5_distanceFromModule 32 = .ok (.invokestatic 53, 3) := by decide +kernel
theorem dX5_distanceFromModule_35 : decode cX5_distanceFromModule 35 = .ok (.ireturn, 1) := by decide +kernel
theorem dX5_distanceFromQuote_0 : decode cX5_distanceFromQuote 0 = .ok (.aload_n 0, 1) := by decide +kernel
theorem dX5_distanceFromQuote_1 : decode cX5_distanceFromQuote 1 = .ok (.getfield 31, 3) := by decide +kernel
theorem dX5_distanceFromQuote_4 : decode cX5_distanceFromQuote 4 = .ok (.aload_n 0, 1) := by decide +kernel
theorem dX5_distanceFromQuote_5 : decode cX5_distanceFromQuote 5 = .ok (.getfield 18, 3) := by decide +kernel
theorem dX5_distanceFromQuote_8 : decode cX5_distanceFromQuote 8 = .ok (.aload_n 1, 1) := by decide +kernel
theorem dX5_distanceFromQuote_9 : decode cX5_distanceFromQuote 9 = .ok (.getfield 31, 3) := by decide +kernel
theorem dX5_distanceFromQuote_12 : decode cX5_distanceFromQuote 12 = .ok (.aload_n 1, 1) := by decide +kernel
theorem dX5_distanceFromQuote_13 : decode cX5_distanceFromQuote 13 = .ok (.getfield 18, 3) := by decide +kernel
theorem dX5_distanceFromQuote_16 : decode cX5_distanceFromQuote 16 = .ok (.invokestatic 56, 3) := by decide +kernel
theorem dX5_distanceFromQuote_19 : decode cX5_distanceFromQuote 19 = .ok (.aload_n 0, 1) := by decide +kernel
theorem dX5_distanceFromQuote_20 : decode cX5_distanceFromQuote 20 = .ok (.getfield 34, 3) := by decide +kernel
theorem dX5_distanceFromQuote_23 : decode cX5_distanceFromQuote 23 = .ok (.aload_n 0, 1) := by decide +kernel
theorem dX5_distanceFromQuote_24 : decode cX5_distanceFromQuote 24 = .ok (.getfield 21, 3) := by decide +kernel
theorem dX5_distanceFromQuote_27 : decode cX5_distanceFromQuote 27 = .ok (.aload_n 1, 1) := by decide +kernel
theorem dX5_distanceFromQuote_28 : decode cX5_distanceFromQuote 28 = .ok (.getfield 34, 3) := by decide +kernel
theorem dX5_distanceFromQuote_31 : decode cX5_distanceFromQuote 31 = .ok (.aload_n 1, 1) := by decide +kernel
theorem dX5_distanceFromQuote_32 : decode cX5_distanceFromQuote 32 = .ok (.getfield 21, 3) := by decide +kernel
theorem dX5_distanceFromQuote_35 : decode cX5_distanceFromQuote 35 = .ok (.invokestatic 56, 3) := by decide +kernel
theorem dX5_distanceFromQuote_38 : decode cX5_distanceFromQuote 38 = .ok (.invokestatic 53, 3) := by decide +kernel
theorem dX5_distanceFromQuote_41 : decode cX5_distanceFromQuote 41 = .ok (.ireturn, 1) := by decide +kernel
theorem dX6_isDigit_0 : decode cX6_isDigit 0 = .ok (.iload_n 0, 1) := by decide +kernel
theorem dX6_isDigit_1 : decode cX6_isDigit 1 = .ok (.bipush 48, 2) := by decide +kernel
theorem dX6_isDigit_3 : decode cX6_isDigit 3 = .ok (.bipush 57, 2) := by decide +kernel
theorem dX6_isDigit_5 : decode cX6_isDigit 5 = .ok (.invokestatic 117, 3) := by decide +kernel
theorem dX6_isDigit_8 : decode cX6_isDigit 8 = .ok (.ireturn, 1) := by decide +kernel
theorem dX6_failAt_0 : decode cX6_failAt 0 = .ok (.aload_n 0, 1) := by decide +kernel
theorem dX6_failAt_1 : decode cX6_failAt 1 = .ok (.invokevirtual 39, 3) := by decide +kernel
theorem dX6_failAt_4 : decode cX6_failAt 4 = .ok (.ifCond .ne 8, 3) := by decide +kernel
theorem dX6_failAt_7 : decode cX6_failAt 7 = .ok (.aload_n 0, 1) := by decide +kernel
theorem dX6_failAt_8 : decode cX6_failAt 8 = .ok (.iload_n 1, 1) := by decide +kernel
theorem dX6_failAt_9 : decode cX6_failAt 9 = .ok (.putfield 25, 3) := by decide +kernel
theorem dX6_failAt_12 : decode cX6_failAt 12 = .ok (.return_, 1) := by decide +kernel
theorem dX10_isModule_0 : decode cX10_isModule 0 = .ok (.iload_n 0, 1) := by decide +kernel
theorem dX10_isModule_1 : decode cX10_isModule 1 = .ok (.iconst 0, 1) := by decide +kernel
theorem dX10_isModule_2 : decode cX10_isModule 2 = .ok (.sipush 359, 3) := by decide +kernel
theorem dX10_isModule_5 : decode cX10_isModule 5 = .ok (.invokestatic 61, 3) := by decide +kernel
theorem dX10_isModule_8 : decode cX10_isModule 8 = .ok (.ireturn, 1) := by decide +kernel
theorem dX10_isPlace_0 : decode cX10_isPlace 0 = .ok (.iload_n 0, 1) := by decide +kernel
theorem dX10_isPlace_1 : decode cX10_isPlace 1 = .ok (.iconst 0, 1) := by decide +kernel
theorem dX10_isPlace_2 : decode cX10_isPlace 2 = .ok (.iconst 2, 1) := by decide +kernel
theorem dX10_isPlace_3 : decode cX10_isPlace 3 = .ok (.invokestatic 61, 3) := by decide +kernel
theorem dX10_isPlace_6 : decode cX10_isPlace 6 = .ok (.ifCond .eq 26, 3) := by decide +kernel
theorem dX10_isPlace_9 : decode cX10_isPlace 9 = .ok (.iload_n 1, 1) := by decide +kernel
theorem dX10_isPlace_10 : decode cX10_isPlace 10 = .ok (.iconst 0, 1) := by decide +kernel
theorem dX10_isPlace_11 : decode cX10_isPlace 11 = .ok (.iconst 5, 1) := by decide +kernel
theorem dX10_isPlace_12 : decode cX10_isPlace 12 = .ok (.invokestatic 61, 3) := by decide +kernel
theorem dX10_isPlace_15 : decode cX10_isPlace 15 = .ok (.ifCond .eq 17, 3) := by decide +kernel
theorem dX10_isPlace_18 : decode cX10_isPlace 18 = .ok (.iload_n 2, 1) := by decide +kernel
theorem dX10_isPlace_19 : decode cX10_isPlace 19 = .ok (.iconst 0, 1) := by decide +kernel
theorem dX10_isPlace_20 : decode cX10_isPlace 20 = .ok (.bipush 19, 2) := by decide +kernel
theorem dX10_isPlace_22 : decode cX10_isPlace 22 = .ok (.invokestatic 61, 3) := by decide +kernel
theorem dX10_isPlace_25 : decode cX10_isPlace 25 = .ok (.ifCond .eq 7, 3) := by decide +kernel
theorem dX10_isPlace_28 : decode cX10_isPlace 28 = .ok (.iconst 1, 1) := by decide +kernel
theorem dX10_isPlace_29 : decode cX10_isPlace 29 = .ok (.goto 4, 3) := by decide +kernel
theorem dX10_isPlace_32 : decode cX10_isPlace 32 = .ok (.iconst 0, 1) := by decide +kernel
theorem dX10_isPlace_33 : decode cX10_isPlace 33 = .ok (.ireturn, 1) := by decide +kernel
theorem dX1_hasLine_0 : decode cX1_hasLine 0 = .ok (.aload_n 0, 1) := by decide +kernel
theorem dX1_hasLine_1 : decode cX1_hasLine 1 = .ok (.iload_n 1, 1) := by decide +kernel
theorem dX1_hasLine_2 : decode cX1_hasLine 2 = .ok (.invokevirtual 53, 3) := by decide +kernel
theorem dX1_hasLine_5 : decode cX1_hasLine 5 = .ok (.ifCond .eq 26, 3) := by decide +kernel
theorem dX1_hasLine_8 : decode cX1_hasLine 8 = .ok (.iload_n 2, 1) := by decide +kernel
theorem dX1_hasLine_9 : decode cX1_hasLine 9 = .ok (.iconst 0, 1) := by decide +kernel
theorem dX1_hasLine_10 : decode cX1_hasLine 10 = .ok (.aload_n 0, 1) := by decide +kernel
theorem dX1_hasLine_11 : decode cX1_hasLine 11 = .ok (.getfield 11, 3) := by decide +kernel
theorem dX1_hasLine_14 : decode cX1_hasLine 14 = .ok (.iload_n 1, 1) := by decide +kernel
theorem dX1_hasLine_15 : decode cX1_hasLine 15 = .ok (.aaload, 1) := by decide +kernel
theorem dX1_hasLine_16 : decode cX1_hasLine 16 = .ok (.getfield 57, 3) := by decide +kernel
theorem dX1_hasLine_19 : decode cX1_hasLine 19 = .ok (.iconst 1, 1) := by decide +kernel
theorem dX1_hasLine_20 : decode cX1_hasLine 20 = .ok (.isub, 1) := by decide +kernel
theorem dX1_hasLine_21 : decode cX1_hasLine 21 = .ok (.invokestatic 49, 3) := by decide +kernel
theorem dX1_hasLine_24 : decode cX1_hasLine 24 = .ok (.ifCond .eq 7, 3) := by decide +kernel
theorem dX1_hasLine_27 : decode cX1_hasLine 27 = .ok (.iconst 1, 1) := by decide +kernel
theorem dX1_hasLine_28 : decode cX1_hasLine 28 = .ok (.goto 4, 3) := by decide +kernel
theorem dX1_hasLine_31 : decode cX1_hasLine 31 = .ok (.iconst 0, 1) := by decide +kernel
theorem dX1_hasLine_32 : decode cX1_hasLine 32 = .ok (.ireturn, 1) := by decide +kernel
theorem dX1_hasSentence_0 : decode cX1_hasSentence 0 = .ok (.aload_n 0, 1) := by decide +kernel
theorem dX1_hasSentence_1 : decode cX1_hasSentence 1 = .ok (.iload_n 1, 1) := by decide +kernel
theorem dX1_hasSentence_2 : decode cX1_hasSentence 2 = .ok (.invokevirtual 53, 3) := by decide +kernel
theorem dX1_hasSentence_5 : decode cX1_hasSentence 5 = .ok (.ifCond .eq 26, 3) := by decide +kernel
theorem dX1_hasSentence_8 : decode cX1_hasSentence 8 = .ok (.iload_n 2, 1) := by decide +kernel
theorem dX1_hasSentence_9 : decode cX1_hasSentence 9 = .ok (.iconst 0, 1) := by decide +kernel
theorem dX1_hasSentence_10 : decode cX1_hasSentence 10 = .ok (.aload_n 0, 1) := by decide +kernel
theorem dX1_hasSentence_11 : decode cX1_hasSentence 11 = .ok (.getfield 11, 3) := by decide +kernel
theorem dX1_hasSentence_14 : decode cX1_hasSentence 14 = .ok (.iload_n 1, 1) := by decide +kernel
theorem dX1_hasSentence_15 : decode cX1_hasSentence 15 = .ok (.aaload, 1) := by decide +kernel
theorem dX1_hasSentence_16 : decode cX1_hasSentence 16 = .ok (.getfield 60, 3) := by decide +kernel
theorem dX1_hasSentence_19 : decode cX1_hasSentence 19 = .ok (.iconst 1, 1) := by decide +kernel
theorem dX1_hasSentence_20 : decode cX1_hasSentence 20 = .ok (.isub, 1) := by decide +kernel
theorem dX1_hasSentence_21 : decode cX1_hasSentence 21 = .ok (.invokestatic 49, 3) := by decide +kernel
theorem dX1_hasSentence_24 : decode cX1_hasSentence 24 = .ok (.ifCond .eq 7, 3) := by decide +kernel
theorem dX1_hasSentence_27 : decode cX1_hasSentence 27 = .ok (.iconst 1, 1) := by decide +kernel
theorem dX1_hasSentence_28 : decode cX1_hasSentence 28 = .ok (.goto 4, 3) := by decide +kernel
theorem dX1_hasSentence_31 : decode cX1_hasSentence 31 = .ok (.iconst 0, 1) := by decide +kernel
theorem dX1_hasSentence_32 : decode cX1_hasSentence 32 = .ok (.ireturn, 1) := by decide +kernel
theorem dX1_dropQuote_0 : decode cX1_dropQuote 0 = .ok (.aload_n 0, 1) := by decide +kernel
theorem dX1_dropQuote_1 : decode cX1_dropQuote 1 = .ok (.iload_n 1, 1) := by decide +kernel
theorem dX1_dropQuote_2 : decode cX1_dropQuote 2 = .ok (.invokevirtual 86, 3) := by decide +kernel
theorem dX1_dropQuote_5 : decode cX1_dropQuote 5 = .ok (.ifCond .ne 4, 3) := by decide +kernel
theorem dX1_dropQuote_8 : decode cX1_dropQuote 8 = .ok (.return_, 1) := by decide +kernel
theorem dX1_dropQuote_9 : decode cX1_dropQuote 9 = .ok (.aload_n 0, 1) := by decide +kernel
theorem dX1_dropQuote_10 : decode cX1_dropQuote 10 = .ok (.dup, 1) := by decide +kernel
theorem dX1_dropQuote_11 : decode cX1_dropQuote 11 = .ok (.getfield 37, 3) := by decide +kernel
theorem dX1_dropQuote_14 : decode cX1_dropQuote 14 = .ok (.iconst 1, 1) := by decide +kernel
theorem dX1_dropQuote_15 : decode cX1_dropQuote 15 = .ok (.isub, 1) := by decide +kernel
theorem dX1_dropQuote_16 : decode cX1_dropQuote 16 = .ok (.putfield 37, 3) := by decide +kernel
theorem dX1_dropQuote_19 : decode cX1_dropQuote 19 = .ok (.iload_n 1, 1) := by decide +kernel
theorem dX1_dropQuote_20 : decode cX1_dropQuote 20 = .ok (.istore_n 2, 1) := by decide +kernel
theorem dX1_dropQuote_21 : decode cX1_dropQuote 21 = .ok (.iload_n 2, 1) := by decide +kernel
theorem dX1_dropQuote_22 : decode cX1_dropQuote 22 = .ok (.aload_n 0, 1) := by decide +kernel
theorem dX1_dropQuote_23 : decode cX1_dropQuote 23 = .ok (.getfield 37, 3) := by decide +kernel
theorem dX1_dropQuote_26 : decode cX1_dropQuote 26 = .ok (.if_icmp .ge 26, 3) := by decide +kernel
theorem dX1_dropQuote_29 : decode cX1_dropQuote 29 = .ok (.aload_n 0, 1) := by decide +kernel
theorem dX1_dropQuote_30 : decode cX1_dropQuote 30 = .ok (.getfield 19, 3) := by decide +kernel
theorem dX1_dropQuote_33 : decode cX1_dropQuote 33 = .ok (.iload_n 2, 1) := by decide +kernel
theorem dX1_dropQuote_34 : decode cX1_dropQuote 34 = .ok (.aaload, 1) := by decide +kernel
theorem dX1_dropQuote_35 : decode cX1_dropQuote 35 = .ok (.aload_n 0, 1) := by decide +kernel
theorem dX1_dropQuote_36 : decode cX1_dropQuote 36 = .ok (.getfield 19, 3) := by decide +kernel
theorem dX1_dropQuote_39 : decode cX1_dropQuote 39 = .ok (.iload_n 2, 1) := by decide +kernel
theorem dX1_dropQuote_40 : decode cX1_dropQuote 40 = .ok (.iconst 1, 1) := by decide +kernel
theorem dX1_dropQuote_41 : decode cX1_dropQuote 41 = .ok (.iadd, 1) := by decide +kernel
theorem dX1_dropQuote_42 : decode cX1_dropQuote 42 = .ok (.aaload, 1) := by decide +kernel
theorem dX1_dropQuote_43 : decode cX1_dropQuote 43 = .ok (.invokevirtual 40, 3) := by decide +kernel
theorem dX1_dropQuote_46 : decode cX1_dropQuote 46 = .ok (.iinc 2 1, 3) := by decide +kernel
theorem dX1_dropQuote_49 : decode cX1_dropQuote 49 = .ok (.goto (-28), 3) := by decide +kernel
theorem dX1_dropQuote_52 : decode cX1_dropQuote 52 = .ok (.return_, 1) := by decide +kernel
theorem dX1_balanceOf_0 : decode cX1_balanceOf 0 = .ok (.iconst 0, 1) := by decide +kernel
theorem dX1_balanceOf_1 : decode cX1_balanceOf 1 = .ok (.istore_n 2, 1) := by decide +kernel
theorem dX1_balanceOf_2 : decode cX1_balanceOf 2 = .ok (.iconst 0, 1) := by decide +kernel
theorem dX1_balanceOf_3 : decode cX1_balanceOf 3 = .ok (.istore_n 3, 1) := by decide +kernel
theorem dX1_balanceOf_4 : decode cX1_balanceOf 4 = .ok (.iload_n 3, 1) := by decide +kernel
theorem dX1_balanceOf_5 : decode cX1_balanceOf 5 = .ok (.aload_n 0, 1) := by decide +kernel
theorem dX1_balanceOf_6 : decode cX1_balanceOf 6 = .ok (.getfield 37, 3) := by decide +kernel
theorem dX1_balanceOf_9 : decode cX1_balanceOf 9 = .ok (.if_icmp .ge 46, 3) := by decide +kernel
theorem dX1_balanceOf_12 : decode cX1_balanceOf 12 = .ok (.aload_n 0, 1) := by decide +kernel
theorem dX1_balanceOf_13 : decode cX1_balanceOf 13 = .ok (.getfield 19, 3) := by decide +kernel
theorem dX1_balanceOf_16 : decode cX1_balanceOf 16 = .ok (.iload_n 3, 1) := by decide +kernel
theorem dX1_balanceOf_17 : decode cX1_balanceOf 17 = .ok (.aaload, 1) := by decide +kernel
theorem dX1_balanceOf_18 : decode cX1_balanceOf 18 = .ok (.getfield 78, 3) := by decide +kernel
theorem dX1_balanceOf_21 : decode cX1_balanceOf 21 = .ok (.ifCond .eq 28, 3) := by decide +kernel
theorem dX1_balanceOf_24 : decode cX1_balanceOf 24 = .ok (.aload_n 0, 1) := by decide +kernel
theorem dX1_balanceOf_25 : decode cX1_balanceOf 25 = .ok (.getfield 19, 3) := by decide +kernel
theorem dX1_balanceOf_28 : decode cX1_balanceOf 28 = .ok (.iload_n 3, 1) := by decide +kernel
theorem dX1_balanceOf_29 : decode cX1_balanceOf 29 = .ok (.aaload, 1) := by decide +kernel
theorem dX1_balanceOf_30 : decode cX1_balanceOf 30 = .ok (.getfield 89, 3) := by decide +kernel
theorem dX1_balanceOf_33 : decode cX1_balanceOf 33 = .ok (.iload_n 1, 1) := by decide +kernel
theorem dX1_balanceOf_34 : decode cX1_balanceOf 34 = .ok (.if_icmp .ne 15, 3) := by decide +kernel
theorem dX1_balanceOf_37 : decode cX1_balanceOf 37 = .ok (.iload_n 2, 1) := by decide +kernel
theorem dX1_balanceOf_38 : decode cX1_balanceOf 38 = .ok (.aload_n 0, 1) := by decide +kernel
theorem dX1_balanceOf_39 : decode cX1_balanceOf 39 = .ok (.getfield 19, 3) := by decide +kernel
theorem dX1_balanceOf_42 : decode cX1_balanceOf 42 = .ok (.iload_n 3, 1) := by decide +kernel
theorem dX1_balanceOf_43 : decode cX1_balanceOf 43 = .ok (.aaload, 1) := by decide +kernel
theorem dX1_balanceOf_44 : decode cX1_balanceOf 44 = .ok (.invokevirtual 92, 3) := by decide +kernel
theorem dX1_balanceOf_47 : decode cX1_balanceOf 47 = .ok (.iadd, 1) := by decide +kernel
theorem dX1_balanceOf_48 : decode cX1_balanceOf 48 = .ok (.istore_n 2, 1) := by decide +kernel
theorem dX1_balanceOf_49 : decode cX1_balanceOf 49 = .ok (.iinc 3 1, 3) := by decide +kernel
theorem dX1_balanceOf_52 : decode cX1_balanceOf 52 = .ok (.goto (-48), 3) := by decide +kernel
theorem dX1_balanceOf_55 : decode cX1_balanceOf 55 = .ok (.iload_n 2, 1) := by decide +kernel
theorem dX1_balanceOf_56 : decode cX1_balanceOf 56 = .ok (.invokestatic 96, 3) := by decide +kernel
theorem dX1_balanceOf_59 : decode cX1_balanceOf 59 = .ok (.ireturn, 1) := by decide +kernel
theorem dX4_arrange_0 : decode cX4_arrange 0 = .ok (.aload_n 0, 1) := by decide +kernel
theorem dX4_arrange_1 : decode cX4_arrange 1 = .ok (.getfield 9, 3) := by decide +kernel
theorem dX4_arrange_4 : decode cX4_arrange 4 = .ok (.iconst 0, 1) := by decide +kernel
theorem dX4_arrange_5 : decode cX4_arrange 5 = .ok (.invokestatic 22, 3) := by decide +kernel
theorem dX4_arrange_8 : decode cX4_arrange 8 = .ok (.iconst 0, 1) := by decide +kernel
theorem dX4_arrange_9 : decode cX4_arrange 9 = .ok (.istore_n 2, 1) := by decide +kernel
theorem dX4_arrange_10 : decode cX4_arrange 10 = .ok (.iload_n 2, 1) := by decide +kernel
theorem dX4_arrange_11 : decode cX4_arrange 11 = .ok (.aload_n 1, 1) := by decide +kernel
theorem dX4_arrange_12 : decode cX4_arrange 12 = .ok (.getfield 28, 3) := by decide +kernel
theorem dX4_arrange_15 : decode cX4_arrange 15 = .ok (.if_icmp .ge 35, 3) := by decide +kernel
theorem dX4_arrange_18 : decode cX4_arrange 18 = .ok (.aload_n 1, 1) := by decide +kernel
theorem dX4_arrange_19 : decode cX4_arrange 19 = .ok (.getfield 34, 3) := by decide +kernel
theorem dX4_arrange_22 : decode cX4_arrange 22 = .ok (.iload_n 2, 1) := by decide +kernel
theorem dX4_arrange_23 : decode cX4_arrange 23 = .ok (.aaload, 1) := by decide +kernel
theorem dX4_arrange_24 : decode cX4_arrange 24 = .ok (.getfield 38, 3) := by decide +kernel
theorem dX4_arrange_27 : decode cX4_arrange 27 = .ok (.ifCond .eq 17, 3) := by decide +kernel
theorem dX4_arrange_30 : decode cX4_arrange 30 = .ok (.aload_n 0, 1) := by decide +kernel
theorem dX4_arrange_31 : decode cX4_arrange 31 = .ok (.aload_n 1, 1) := by decide +kernel
theorem dX4_arrange_32 : decode cX4_arrange 32 = .ok (.getfield 34, 3) := by decide +kernel
theorem dX4_arrange_35 : decode cX4_arrange 35 = .ok (.iload_n 2, 1) := by decide +kernel
theorem dX4_arrange_36 : decode cX4_arrange 36 = .ok (.aaload, 1) := by decide +kernel
theorem dX4_arrange_37 : decode cX4_arrange 37 = .ok (.bipush 21, 2) := by decide +kernel
theorem dX4_arrange_39 : decode cX4_arrange 39 = .ok (.iload_n 2, 1) := by decide +kernel
theorem dX4_arrange_40 : decode cX4_arrange 40 = .ok (.iadd, 1) := by decide +kernel
theorem dX4_arrange_41 : decode cX4_arrange 41 = .ok (.invokevirtual 44, 3) := by decide +kernel
theorem dX4_arrange_44 : decode cX4_arrange 44 = .ok (.iinc 2 1, 3) := by decide +kernel
theorem dX4_arrange_47 : decode cX4_arrange 47 = .ok (.goto (-37), 3) := by decide +kernel
theorem dX4_arrange_50 : decode cX4_arrange 50 = .ok (.aload_n 0, 1) := by decide +kernel
theorem dX4_arrange_51 : decode cX4_arrange 51 = .ok (.aload_n 1, 1) := by decide +kernel
theorem dX4_arrange_52 : decode cX4_arrange 52 = .ok (.getfield 48, 3) := by decide +kernel
theorem dX4_arrange_55 : decode cX4_arrange 55 = .ok (.putfield 51, 3) := by decide +kernel
theorem dX4_arrange_58 : decode cX4_arrange 58 = .ok (.iconst 0, 1) := by decide +kernel
theorem dX4_arrange_59 : decode cX4_arrange 59 = .ok (.istore_n 2, 1) := by decide +kernel
theorem dX4_arrange_60 : decode cX4_arrange 60 = .ok (.iload_n 2, 1) := by decide +kernel
theorem dX4_arrange_61 : decode cX4_arrange 61 = .ok (.aload_n 0, 1) := by decide +kernel
theorem dX4_arrange_62 : decode cX4_arrange 62 = .ok (.getfield 51, 3) := by decide +kernel
theorem dX4_arrange_65 : decode cX4_arrange 65 = .ok (.if_icmp .ge 29, 3) := by decide +kernel
theorem dX4_arrange_68 : decode cX4_arrange 68 = .ok (.aload_n 0, 1) := by decide +kernel
theorem dX4_arrange_69 : decode cX4_arrange 69 = .ok (.getfield 17, 3) := by decide +kernel
theorem dX4_arrange_72 : decode cX4_arrange 72 = .ok (.iload_n 2, 1) := by decide +kernel
theorem dX4_arrange_73 : decode cX4_arrange 73 = .ok (.aaload, 1) := by decide +kernel
theorem dX4_arrange_74 : decode cX4_arrange 74 = .ok (.aload_n 1, 1) := by decide +kernel
theorem dX4_arrange_75 : decode cX4_arrange 75 = .ok (.getfield 52, 3) := by decide +kernel
theorem dX4_arrange_78 : decode cX4_arrange 78 = .ok (.iload_n 2, 1) := by decide +kernel
theorem dX4_arrange_79 : decode cX4_arrange 79 = .ok (.aaload, 1) := by decide +kernel
theorem dX4_arrange_80 : decode cX4_arrange 80 = .ok (.iload_n 2, 1) := by decide +kernel
theorem dX4_arrange_81 : decode cX4_arrange 81 = .ok (.aload_n 0, 1) := by decide +kernel
theorem dX4_arrange_82 : decode cX4_arrange 82 = .ok (.getfield 9, 3) := by decide +kernel
theorem dX4_arrange_85 : decode cX4_arrange 85 = .ok (.invokevirtual 56, 3) := by decide +kernel
theorem dX4_arrange_88 : decode cX4_arrange 88 = .ok (.iinc 2 1, 3) := by decide +kernel
theorem dX4_arrange_91 : decode cX4_arrange 91 = .ok (.goto (-31), 3) := by decide +kernel
theorem dX4_arrange_94 : decode cX4_arrange 94 = .ok (.return_, 1) := by decide +kernel
theorem dX4_distanceFromSentence_0 : decode cX4_distanceFromSentence 0 = .ok (.aload_n 2, 1) := by decide +kernel
theorem dX4_distanceFromSentence_1 : decode cX4_distanceFromSentence 1 = .ok (.getfield 38, 3) := by decide +kernel
theorem dX4_distanceFromSentence_4 : decode cX4_distanceFromSentence 4 = .ok (.ifCond .eq 14, 3) := by decide +kernel
theorem dX4_distanceFromSentence_7 : decode cX4_distanceFromSentence 7 = .ok (.aload_n 2, 1) := by decide +kernel
theorem dX4_distanceFromSentence_8 : decode cX4_distanceFromSentence 8 = .ok (.getfield 91, 3) := by decide +kernel
theorem dX4_distanceFromSentence_11 : decode cX4_distanceFromSentence 11 = .ok (.aload_n 0, 1) := by decide +kernel
theorem dX4_distanceFromSentence_12 : decode cX4_distanceFromSentence 12 = .ok (.getfield 51, 3) := by decide +kernel
theorem dX4_distanceFromSentence_15 : decode cX4_distanceFromSentence 15 = .ok (.if_icmp .lt 6, 3) := by decide +kernel
theorem dX4_distanceFromSentence_18 : decode cX4_distanceFromSentence 18 = .ok (.bipush (-99), 2) := by decide +kernel
theorem dX4_distanceFromSentence_20 : decode cX4_distanceFromSentence 20 = .ok (.ireturn, 1) := by decide +kernel
theorem dX4_distanceFromSentence_21 : decode cX4_distanceFromSentence 21 = .ok (.aload_n 1, 1) := by decide +kernel
theorem dX4_distanceFromSentence_22 : decode cX4_distanceFromSentence 22 = .ok (.getfield 52, 3) := by decide +kernel
theorem dX4_distanceFromSentence_25 : decode cX4_distanceFromSentence 25 = .ok (.aload_n 2, 1) := by decide +kernel
theorem dX4_distanceFromSentence_26 : decode cX4_distanceFromSentence 26 = .ok (.getfield 91, 3) := by decide +kernel
theorem dX4_distanceFromSentence_29 : decode cX4_distanceFromSentence 29 = .ok (.aaload, 1) := by decide +kernel
theorem dX4_distanceFromSentence_30 : decode cX4_distanceFromSentence 30 = .ok (.astore_n 3, 1) := by decide +kernel
theorem dX4_distanceFromSentence_31 : decode cX4_distanceFromSentence 31 = .ok (.aload_n 2, 1) := by decide +kernel
theorem dX4_distanceFromSentence_32 : decode cX4_distanceFromSentence 32 = .ok (.getfield 94, 3) := by decide +kernel
theorem dX4_distanceFromSentence_35 : decode cX4_distanceFromSentence 35 = .ok (.aload_n 3, 1) := by decide +kernel
theorem dX4_distanceFromSentence_36 : decode cX4_distanceFromSentence 36 = .ok (.getfield 97, 3) := by decide +kernel
theorem dX4_distanceFromSentence_39 : decode cX4_distanceFromSentence 39 = .ok (.if_icmp .lt 6, 3) := by decide +kernel
theorem dX4_distanceFromSentence_42 : decode cX4_distanceFromSentence 42 = .ok (.bipush (-99), 2) := by decide +kernel
theorem dX4_distanceFromSentence_44 : decode cX4_distanceFromSentence 44 = .ok (.ireturn, 1) := by decide +kernel
theorem dX4_distanceFromSentence_45 : decode cX4_distanceFromSentence 45 = .ok (.aload_n 3, 1) := by decide +kernel
theorem dX4_distanceFromSentence_46 : decode cX4_distanceFromSentence 46 = .ok (.getfield 102, 3) := by decide +kernel
theorem dX4_distanceFromSentence_49 : decode cX4_distanceFromSentence 49 = .ok (.aload_n 2, 1) := by decide +kernel
theorem dX4_distanceFromSentence_50 : decode cX4_distanceFromSentence 50 = .ok (.getfield 94, 3) := by decide +kernel
theorem dX4_distanceFromSentence_53 : decode cX4_distanceFromSentence 53 = .ok (.iaload, 1) := by decide +kernel
theorem dX4_distanceFromSentence_54 : decode cX4_distanceFromSentence 54 = .ok (.istore 4, 2) := by decide +kernel
theorem dX4_distanceFromSentence_56 : decode cX4_distanceFromSentence 56 = .ok (.aload_n 0, 1) := by decide +kernel
theorem dX4_distanceFromSentence_57 : decode cX4_distanceFromSentence 57 = .ok (.getfield 17, 3) := by decide +kernel
theorem dX4_distanceFromSentence_60 : decode cX4_distanceFromSentence 60 = .ok (.aload_n 2, 1) := by decide +kernel
theorem dX4_distanceFromSentence_61 : decode cX4_distanceFromSentence 61 = .ok (.getfield 91, 3) := by decide +kernel
theorem dX4_distanceFromSentence_64 : decode cX4_distanceFromSentence 64 = .ok (.aaload, 1) := by decide +kernel
theorem dX4_distanceFromSentence_65 : decode cX4_distanceFromSentence 65 = .ok (.iload 4, 2) := by decide +kernel
theorem dX4_distanceFromSentence_67 : decode cX4_distanceFromSentence 67 = .ok (.invokevirtual 105, 3) := by decide +kernel
theorem dX4_distanceFromSentence_70 : decode cX4_distanceFromSentence 70 = .ok (.istore 5, 2) := by decide +kernel
theorem dX4_distanceFromSentence_72 : decode cX4_distanceFromSentence 72 = .ok (.iload 5, 2) := by decide +kernel
theorem dX4_distanceFromSentence_74 : decode cX4_distanceFromSentence 74 = .ok (.bipush (-99), 2) := by decide +kernel
theorem dX4_distanceFromSentence_76 : decode cX4_distanceFromSentence 76 = .ok (.if_icmp .eq 15, 3) := by decide +kernel
theorem dX4_distanceFromSentence_79 : decode cX4_distanceFromSentence 79 = .ok (.iload 5, 2) := by decide +kernel
theorem dX4_distanceFromSentence_81 : decode cX4_distanceFromSentence 81 = .ok (.invokestatic 109, 3) := by decide +kernel
theorem dX4_distanceFromSentence_84 : decode cX4_distanceFromSentence 84 = .ok (.aload_n 2, 1) := by decide +kernel
theorem dX4_distanceFromSentence_85 : decode cX4_distanceFromSentence 85 = .ok (.getfield 78, 3) := by decide +kernel
theorem dX4_distanceFromSentence_88 : decode cX4_distanceFromSentence 88 = .ok (.if_icmp .eq 6, 3) := by decide +kernel
theorem dX4_distanceFromSentence_91 : decode cX4_distanceFromSentence 91 = .ok (.bipush (-99), 2) := by decide +kernel
theorem dX4_distanceFromSentence_93 : decode cX4_distanceFromSentence 93 = .ok (.ireturn, 1) := by decide +kernel
theorem dX4_distanceFromSentence_94 : decode cX4_distanceFromSentence 94 = .ok (.aload_n 2, 1) := by decide +kernel
theorem dX4_distanceFromSentence_95 : decode cX4_distanceFromSentence 95 = .ok (.iload 5, 2) := by decide +kernel
theorem dX4_distanceFromSentence_97 : decode cX4_distanceFromSentence 97 = .ok (.invokevirtual 112, 3) := by decide +kernel
theorem dX4_distanceFromSentence_100 : decode cX4_distanceFromSentence 100 = .ok (.ireturn, 1) := by decide +kernel
theorem dX6_expect_0 : decode cX6_expect 0 = .ok (.aload_n 0, 1) := by decide +kernel
theorem dX6_expect_1 : decode cX6_expect 1 = .ok (.invokevirtual 39, 3) := by decide +kernel
theorem dX6_expect_4 : decode cX6_expect 4 = .ok (.ifCond .eq 4, 3) := by decide +kernel
theorem dX6_expect_7 : decode cX6_expect 7 = .ok (.return_, 1) := by decide +kernel
theorem dX6_expect_8 : decode cX6_expect 8 = .ok (.aload_n 0, 1) := by decide +kernel
theorem dX6_expect_9 : decode cX6_expect 9 = .ok (.invokevirtual 43, 3) := by decide +kernel
theorem dX6_expect_12 : decode cX6_expect 12 = .ok (.iload_n 1, 1) := by decide +kernel
theorem dX6_expect_13 : decode cX6_expect 13 = .ok (.if_icmp .ne 16, 3) := by decide +kernel
theorem dX6_expect_16 : decode cX6_expect 16 = .ok (.aload_n 0, 1) := by decide +kernel
theorem dX6_expect_17 : decode cX6_expect 17 = .ok (.dup, 1) := by decide +kernel
theorem dX6_expect_18 : decode cX6_expect 18 = .ok (.getfield 36, 3) := by decide +kernel
theorem dX6_expect_21 : decode cX6_expect 21 = .ok (.iconst 1, 1) := by decide +kernel
theorem dX6_expect_22 : decode cX6_expect 22 = .ok (.iadd, 1) := by decide +kernel
theorem dX6_expect_23 : decode cX6_expect 23 = .ok (.putfield 36, 3) := by decide +kernel
theorem dX6_expect_26 : decode cX6_expect 26 = .ok (.goto 11, 3) := by decide +kernel
theorem dX6_expect_29 : decode cX6_expect 29 = .ok (.aload_n 0, 1) := by decide +kernel
theorem dX6_expect_30 : decode cX6_expect 30 = .ok (.aload_n 0, 1) := by decide +kernel
theorem dX6_expect_31 : decode cX6_expect 31 = .ok (.getfield 36, 3) := by decide +kernel
theorem dX6_expect_34 : decode cX6_expect 34 = .ok (.invokevirtual 62, 3) := by decide +kernel
theorem dX6_expect_37 : decode cX6_expect 37 = .ok (.return_, 1) := by decide +kernel
theorem dX6_readNumber_0 : decode cX6_readNumber 0 = .ok (.aload_n 0, 1) := by decide +kernel
theorem dX6_readNumber_1 : decode cX6_readNumber 1 = .ok (.invokevirtual 39, 3) := by decide +kernel
theorem dX6_readNumber_4 : decode cX6_readNumber 4 = .ok (.ifCond .eq 5, 3) := by decide +kernel
theorem dX6_readNumber_7 : decode cX6_readNumber 7 = .ok (.iload_n 1, 1) := by decide +kernel
theorem dX6_readNumber_8 : decode cX6_readNumber 8 = .ok (.ireturn, 1) := by decide +kernel
theorem dX6_readNumber_9 : decode cX6_readNumber 9 = .ok (.aload_n 0, 1) := by decide +kernel
theorem dX6_readNumber_10 : decode cX6_readNumber 10 = .ok (.invokevirtual 43, 3) := by decide +kernel
theorem dX6_readNumber_13 : decode cX6_readNumber 13 = .ok (.pop, 1) := by decide +kernel
theorem dX6_readNumber_14 : decode cX6_readNumber 14 = .ok (.aload_n 0, 1) := by decide +kernel
theorem dX6_readNumber_15 : decode cX6_readNumber 15 = .ok (.getfield 36, 3) := by decide +kernel
theorem dX6_readNumber_18 : decode cX6_readNumber 18 = .ok (.istore_n 3, 1) := by decide +kernel
theorem dX6_readNumber_19 : decode cX6_readNumber 19 = .ok (.iconst 0, 1) := by decide +kernel
theorem dX6_readNumber_20 : decode cX6_readNumber 20 = .ok (.istore 4, 2) := by decide +kernel
theorem dX6_readNumber_22 : decode cX6_readNumber 22 = .ok (.aload_n 0, 1) := by decide +kernel
theorem dX6_readNumber_23 : decode cX6_readNumber 23 = .ok (.getfield 36, 3) := by decide +kernel
theorem dX6_readNumber_26 : decode cX6_readNumber 26 = .ok (.aload_n 0, 1) := by decide +kernel
theorem dX6_readNumber_27 : decode cX6_readNumber 27 = .ok (.getfield 12, 3) := by decide +kernel
theorem dX6_readNumber_30 : decode cX6_readNumber 30 = .ok (.getfield 104, 3) := by decide +kernel
theorem dX6_readNumber_33 : decode cX6_readNumber 33 = .ok (.if_icmp .ge 63, 3) := by decide +kernel
theorem dX6_readNumber_36 : decode cX6_readNumber 36 = .ok (.aload_n 0, 1) := by decide +kernel
theorem dX6_readNumber_37 : decode cX6_readNumber 37 = .ok (.getfield 12, 3) := by decide +kernel
theorem dX6_readNumber_40 : decode cX6_readNumber 40 = .ok (.getfield 105, 3) := by decide +kernel
theorem dX6_readNumber_43 : decode cX6_readNumber 43 = .ok (.aload_n 0, 1) := by decide +kernel
theorem dX6_readNumber_44 : decode cX6_readNumber 44 = .ok (.getfield 36, 3) := by decide +kernel
theorem dX6_readNumber_47 : decode cX6_readNumber 47 = .ok (.iaload, 1) := by decide +kernel
theorem dX6_readNumber_48 : decode cX6_readNumber 48 = .ok (.invokestatic 109, 3) := by decide +kernel
theorem dX6_readNumber_51 : decode cX6_readNumber 51 = .ok (.ifCond .eq 45, 3) := by decide +kernel
theorem dX6_readNumber_54 : decode cX6_readNumber 54 = .ok (.iload 4, 2) := by decide +kernel
theorem dX6_readNumber_56 : decode cX6_readNumber 56 = .ok (.bipush 10, 2) := by decide +kernel
theorem dX6_readNumber_58 : decode cX6_readNumber 58 = .ok (.imul, 1) := by decide +kernel
theorem dX6_readNumber_59 : decode cX6_readNumber 59 = .ok (.aload_n 0, 1) := by decide +kernel
theorem dX6_readNumber_60 : decode cX6_readNumber 60 = .ok (.getfield 12, 3) := by decide +kernel
theorem dX6_readNumber_63 : decode cX6_readNumber 63 = .ok (.getfield 105, 3) := by decide +kernel
theorem dX6_readNumber_66 : decode cX6_readNumber 66 = .ok (.aload_n 0, 1) := by decide +kernel
theorem dX6_readNumber_67 : decode cX6_readNumber 67 = .ok (.getfield 36, 3) := by decide +kernel
theorem dX6_readNumber_70 : decode cX6_readNumber 70 = .ok (.iaload, 1) := by decide +kernel
theorem dX6_readNumber_71 : decode cX6_readNumber 71 = .ok (.iadd, 1) := by decide +kernel
theorem dX6_readNumber_72 : decode cX6_readNumber 72 = .ok (.bipush 48, 2) := by decide +kernel
theorem dX6_readNumber_74 : decode cX6_readNumber 74 = .ok (.isub, 1) := by decide +kernel
theorem dX6_readNumber_75 : decode cX6_readNumber 75 = .ok (.sipush 1000, 3) := by decide +kernel
theorem dX6_readNumber_78 : decode cX6_readNumber 78 = .ok (.invokestatic 112, 3) := by decide +kernel
theorem dX6_readNumber_81 : decode cX6_readNumber 81 = .ok (.istore 4, 2) := by decide +kernel
theorem dX6_readNumber_83 : decode cX6_readNumber 83 = .ok (.aload_n 0, 1) := by decide +kernel
theorem dX6_readNumber_84 : decode cX6_readNumber 84 = .ok (.dup, 1) := by decide +kernel
theorem dX6_readNumber_85 : decode cX6_readNumber 85 = .ok (.getfield 36, 3) := by decide +kernel
theorem dX6_readNumber_88 : decode cX6_readNumber 88 = .ok (.iconst 1, 1) := by decide +kernel
theorem dX6_readNumber_89 : decode cX6_readNumber 89 = .ok (.iadd, 1) := by decide +kernel
theorem dX6_readNumber_90 : decode cX6_readNumber 90 = .ok (.putfield 36, 3) := by decide +kernel
theorem dX6_readNumber_93 : decode cX6_readNumber 93 = .ok (.goto (-71), 3) := by decide +kernel
theorem dX6_readNumber_96 : decode cX6_readNumber 96 = .ok (.aload_n 0, 1) := by decide +kernel
theorem dX6_readNumber_97 : decode cX6_readNumber 97 = .ok (.getfield 36, 3) := by decide +kernel
theorem dX6_readNumber_100 : decode cX6_readNumber 100 = .ok (.iload_n 3, 1) := by decide +kernel
theorem dX6_readNumber_101 : decode cX6_readNumber 101 = .ok (.isub, 1) := by decide +kernel
theorem dX6_readNumber_102 : decode cX6_readNumber 102 = .ok (.istore 5, 2) := by decide +kernel
theorem dX6_readNumber_104 : decode cX6_readNumber 104 = .ok (.iload 5, 2) := by decide +kernel
theorem dX6_readNumber_106 : decode cX6_readNumber 106 = .ok (.ifCond .eq 33, 3) := by decide +kernel
theorem dX6_readNumber_109 : decode cX6_readNumber 109 = .ok (.iload 5, 2) := by decide +kernel
theorem dX6_readNumber_111 : decode cX6_readNumber 111 = .ok (.iconst 1, 1) := by decide +kernel
theorem dX6_readNumber_112 : decode cX6_readNumber 112 = .ok (.if_icmp .le 17, 3) := by decide +kernel
theorem dX6_readNumber_115 : decode cX6_readNumber 115 = .ok (.aload_n 0, 1) := by decide +kernel
theorem dX6_readNumber_116 : decode cX6_readNumber 116 = .ok (.getfield 12, 3) := by decide +kernel
theorem dX6_readNumber_119 : decode cX6_readNumber 119 = .ok (.getfield 105, 3) := by decide +kernel
theorem dX6_readNumber_122 : decode cX6_readNumber 122 = .ok (.iload_n 3, 1) := by decide +kernel
theorem dX6_readNumber_123 : decode cX6_readNumber 123 = .ok (.iaload, 1) := by decide +kernel
theorem dX6_readNumber_124 : decode cX6_readNumber 124 = .ok (.bipush 48, 2) := by decide +kernel
theorem dX6_readNumber_126 : decode cX6_readNumber 126 = .ok (.if_icmp .eq 13, 3) := by decide +kernel
theorem dX6_readNumber_129 : decode cX6_readNumber 129 = .ok (.iload 4, 2) := by decide +kernel
theorem dX6_readNumber_131 : decode cX6_readNumber 131 = .ok (.iload_n 1, 1) := by decide +kernel
theorem dX6_readNumber_132 : decode cX6_readNumber 132 = .ok (.iload_n 2, 1) := by decide +kernel
theorem dX6_readNumber_133 : decode cX6_readNumber 133 = .ok (.invokestatic 117, 3) := by decide +kernel
theorem dX6_readNumber_136 : decode cX6_readNumber 136 = .ok (.ifCond .ne 8, 3) := by decide +kernel
theorem dX6_readNumber_139 : decode cX6_readNumber 139 = .ok (.aload_n 0, 1) := by decide +kernel
theorem dX6_readNumber_140 : decode cX6_readNumber 140 = .ok (.iload_n 3, 1) := by decide +kernel
theorem dX6_readNumber_141 : decode cX6_readNumber 141 = .ok (.invokevirtual 62, 3) := by decide +kernel
theorem dX6_readNumber_144 : decode cX6_readNumber 144 = .ok (.iload 4, 2) := by decide +kernel
theorem dX6_readNumber_146 : decode cX6_readNumber 146 = .ok (.ireturn, 1) := by decide +kernel
theorem dX7_copyFrom_0 : decode cX7_copyFrom 0 = .ok (.aload_n 0, 1) := by decide +kernel
theorem dX7_copyFrom_1 : decode cX7_copyFrom 1 = .ok (.getfield 12, 3) := by decide +kernel
theorem dX7_copyFrom_4 : decode cX7_copyFrom 4 = .ok (.aload_n 1, 1) := by decide +kernel
theorem dX7_copyFrom_5 : decode cX7_copyFrom 5 = .ok (.getfield 12, 3) := by decide +kernel
theorem dX7_copyFrom_8 : decode cX7_copyFrom 8 = .ok (.invokevirtual 26, 3) := by decide +kernel
theorem dX7_copyFrom_11 : decode cX7_copyFrom 11 = .ok (.iconst 0, 1) := by decide +kernel
theorem dX7_copyFrom_12 : decode cX7_copyFrom 12 = .ok (.istore_n 2, 1) := by decide +kernel
theorem dX7_copyFrom_13 : decode cX7_copyFrom 13 = .ok (.iload_n 2, 1) := by decide +kernel
theorem dX7_copyFrom_14 : decode cX7_copyFrom 14 = .ok (.iconst 2, 1) := by decide +kernel
theorem dX7_copyFrom_15 : decode cX7_copyFrom 15 = .ok (.if_icmp .ge 45, 3) := by decide +kernel
theorem dX7_copyFrom_18 : decode cX7_copyFrom 18 = .ok (.aload_n 0, 1) := by decide +kernel
theorem dX7_copyFrom_19 : decode cX7_copyFrom 19 = .ok (.getfield 22, 3) := by decide +kernel
theorem dX7_copyFrom_22 : decode cX7_copyFrom 22 = .ok (.iload_n 2, 1) := by decide +kernel
theorem dX7_copyFrom_23 : decode cX7_copyFrom 23 = .ok (.aload_n 1, 1) := by decide +kernel
theorem dX7_copyFrom_24 : decode cX7_copyFrom 24 = .ok (.getfield 22, 3) := by decide +kernel
theorem dX7_copyFrom_27 : decode cX7_copyFrom 27 = .ok (.iload_n 2, 1) := by decide +kernel
theorem dX7_copyFrom_28 : decode cX7_copyFrom 28 = .ok (.baload, 1) := by decide +kernel
theorem dX7_copyFrom_29 : decode cX7_copyFrom 29 = .ok (.bastore, 1) := by decide +kernel
theorem dX7_copyFrom_30 : decode cX7_copyFrom 30 = .ok (.aload_n 0, 1) := by decide +kernel
theorem dX7_copyFrom_31 : decode cX7_copyFrom 31 = .ok (.getfield 22, 3) := by decide +kernel
theorem dX7_copyFrom_34 : decode cX7_copyFrom 34 = .ok (.iload_n 2, 1) := by decide +kernel
theorem dX7_copyFrom_35 : decode cX7_copyFrom 35 = .ok (.baload, 1) := by decide +kernel
theorem dX7_copyFrom_36 : decode cX7_copyFrom 36 = .ok (.ifCond .eq 18, 3) := by decide +kernel
theorem dX7_copyFrom_39 : decode cX7_copyFrom 39 = .ok (.aload_n 0, 1) := by decide +kernel
theorem dX7_copyFrom_40 : decode cX7_copyFrom 40 = .ok (.getfield 18, 3) := by decide +kernel
theorem dX7_copyFrom_43 : decode cX7_copyFrom 43 = .ok (.iload_n 2, 1) := by decide +kernel
theorem dX7_copyFrom_44 : decode cX7_copyFrom 44 = .ok (.aaload, 1) := by decide +kernel
theorem dX7_copyFrom_45 : decode cX7_copyFrom 45 = .ok (.aload_n 1, 1) := by decide +kernel
theorem dX7_copyFrom_46 : decode cX7_copyFrom 46 = .ok (.getfield 18, 3) := by decide +kernel
theorem dX7_copyFrom_49 : decode cX7_copyFrom 49 = .ok (.iload_n 2, 1) := by decide +kernel
theorem dX7_copyFrom_50 : decode cX7_copyFrom 50 = .ok (.aaload, 1) := by decide +kernel
theorem dX7_copyFrom_51 : decode cX7_copyFrom 51 = .ok (.invokevirtual 26, 3) := by decide +kernel
theorem dX7_copyFrom_54 : decode cX7_copyFrom 54 = .ok (.iinc 2 1, 3) := by decide +kernel
theorem dX7_copyFrom_57 : decode cX7_copyFrom 57 = .ok (.goto (-44), 3) := by decide +kernel
theorem dX7_copyFrom_60 : decode cX7_copyFrom 60 = .ok (.return_, 1) := by decide +kernel
theorem dX9_isTooNearToAnother_0 : decode cX9_isTooNearToAnother 0 = .ok (.iconst 0, 1) := by decide +kernel
theorem dX9_isTooNearToAnother_1 : decode cX9_isTooNearToAnother 1 = .ok (.istore_n 2, 1) := by decide +kernel
theorem dX9_isTooNearToAnother_2 : decode cX9_isTooNearToAnother 2 = .ok (.iload_n 2, 1) := by decide +kernel
theorem dX9_isTooNearToAnother_3 : decode cX9_isTooNearToAnother 3 = .ok (.aload_n 0, 1) := by decide +kernel
theorem dX9_isTooNearToAnother_4 : decode cX9_isTooNearToAnother 4 = .ok (.getfield 12, 3) := by decide +kernel
theorem dX9_isTooNearToAnother_7 : decode cX9_isTooNearToAnother 7 = .ok (.getfield 73, 3) := by decide +kernel
theorem dX9_isTooNearToAnother_10 : decode cX9_isTooNearToAnother 10 = .ok (.if_icmp .ge 64, 3) := by decide +kernel
theorem dX9_isTooNearToAnother_13 : decode cX9_isTooNearToAnother 13 = .ok (.aload_n 0, 1) := by decide +kernel
theorem dX9_isTooNearToAnother_14 : decode cX9_isTooNearToAnother 14 = .ok (.getfield 12, 3) := by decide +kernel
theorem dX9_isTooNearToAnother_17 : decode cX9_isTooNearToAnother 17 = .ok (.getfield 36, 3) := by decide +kernel
theorem dX9_isTooNearToAnother_20 : decode cX9_isTooNearToAnother 20 = .ok (.iload_n 2, 1) := by decide +kernel
theorem dX9_isTooNearToAnother_21 : decode cX9_isTooNearToAnother 21 = .ok (.aaload, 1) := by decide +kernel
theorem dX9_isTooNearToAnother_22 : decode cX9_isTooNearToAnother 22 = .ok (.astore_n 3, 1) := by decide +kernel
theorem dX9_isTooNearToAnother_23 : decode cX9_isTooNearToAnother 23 = .ok (.iload_n 2, 1) := by decide +kernel
theorem dX9_isTooNearToAnother_24 : decode cX9_isTooNearToAnother 24 = .ok (.aload_n 0, 1) := by decide +kernel
theorem dX9_isTooNearToAnother_25 : decode cX9_isTooNearToAnother 25 = .ok (.getfield 32, 3) := by decide +kernel
theorem dX9_isTooNearToAnother_28 : decode cX9_isTooNearToAnother 28 = .ok (.if_icmp .eq 40, 3) := by decide +kernel
theorem dX9_isTooNearToAnother_31 : decode cX9_isTooNearToAnother 31 = .ok (.aload_n 3, 1) := by decide +kernel
theorem dX9_isTooNearToAnother_32 : decode cX9_isTooNearToAnother 32 = .ok (.getfield 40, 3) := by decide +kernel
theorem dX9_isTooNearToAnother_35 : decode cX9_isTooNearToAnother 35 = .ok (.ifCond .eq 33, 3) := by decide +kernel
theorem dX9_isTooNearToAnother_38 : decode cX9_isTooNearToAnother 38 = .ok (.aload_n 3, 1) := by decide +kernel
theorem dX9_isTooNearToAnother_39 : decode cX9_isTooNearToAnother 39 = .ok (.getfield 76, 3) := by decide +kernel
theorem dX9_isTooNearToAnother_42 : decode cX9_isTooNearToAnother 42 = .ok (.aload_n 1, 1) := by decide +kernel
theorem dX9_isTooNearToAnother_43 : decode cX9_isTooNearToAnother 43 = .ok (.getfield 76, 3) := by decide +kernel
theorem dX9_isTooNearToAnother_46 : decode cX9_isTooNearToAnother 46 = .ok (.if_icmp .ne 22, 3) := by decide +kernel
theorem dX9_isTooNearToAnother_49 : decode cX9_isTooNearToAnother 49 = .ok (.aload_n 1, 1) := by decide +kernel
theorem dX9_isTooNearToAnother_50 : decode cX9_isTooNearToAnother 50 = .ok (.aload_n 3, 1) := by decide +kernel
theorem dX9_isTooNearToAnother_51 : decode cX9_isTooNearToAnother 51 = .ok (.invokevirtual 79, 3) := by decide +kernel
theorem dX9_isTooNearToAnother_54 : decode cX9_isTooNearToAnother 54 = .ok (.aload_n 0, 1) := by decide +kernel
theorem dX9_isTooNearToAnother_55 : decode cX9_isTooNearToAnother 55 = .ok (.getfield 12, 3) := by decide +kernel
theorem dX9_isTooNearToAnother_58 : decode cX9_isTooNearToAnother 58 = .ok (.getfield 82, 3) := by decide +kernel
theorem dX9_isTooNearToAnother_61 : decode cX9_isTooNearToAnother 61 = .ok (.iconst 2, 1) := by decide +kernel
theorem dX9_isTooNearToAnother_62 : decode cX9_isTooNearToAnother 62 = .ok (.iaload, 1) := by decide +kernel
theorem dX9_isTooNearToAnother_63 : decode cX9_isTooNearToAnother 63 = .ok (.if_icmp .ge 5, 3) := by decide +kernel
theorem dX9_isTooNearToAnother_66 : decode cX9_isTooNearToAnother 66 = .ok (.iconst 1, 1) := by decide +kernel
theorem dX9_isTooNearToAnother_67 : decode cX9_isTooNearToAnother 67 = .ok (.ireturn, 1) := by decide +kernel
theorem dX9_isTooNearToAnother_68 : decode cX9_isTooNearToAnother 68 = .ok (.iinc 2 1, 3) := by decide +kernel
theorem dX9_isTooNearToAnother_71 : decode cX9_isTooNearToAnother 71 = .ok (.goto (-69), 3) := by decide +kernel
theorem dX9_isTooNearToAnother_74 : decode cX9_isTooNearToAnother 74 = .ok (.iconst 0, 1) := by decide +kernel
theorem dX9_isTooNearToAnother_75 : decode cX9_isTooNearToAnother 75 = .ok (.ireturn, 1) := by decide +kernel
theorem dX1_dropArticle_0 : decode cX1_dropArticle 0 = .ok (.aload_n 0, 1) := by decide +kernel
theorem dX1_dropArticle_1 : decode cX1_dropArticle 1 = .ok (.iload_n 1, 1) := by decide +kernel
theorem dX1_dropArticle_2 : decode cX1_dropArticle 2 = .ok (.invokevirtual 53, 3) := by decide +kernel
theorem dX1_dropArticle_5 : decode cX1_dropArticle 5 = .ok (.ifCond .ne 4, 3) := by decide +kernel
theorem dX1_dropArticle_8 : decode cX1_dropArticle 8 = .ok (.return_, 1) := by decide +kernel
theorem dX1_dropArticle_9 : decode cX1_dropArticle 9 = .ok (.aload_n 0, 1) := by decide +kernel
theorem dX1_dropArticle_10 : decode cX1_dropArticle 10 = .ok (.getfield 37, 3) := by decide +kernel
theorem dX1_dropArticle_13 : decode cX1_dropArticle 13 = .ok (.iconst 1, 1) := by decide +kernel
theorem dX1_dropArticle_14 : decode cX1_dropArticle 14 = .ok (.isub, 1) := by decide +kernel
theorem dX1_dropArticle_15 : decode cX1_dropArticle 15 = .ok (.istore_n 2, 1) := by decide +kernel
theorem dX1_dropArticle_16 : decode cX1_dropArticle 16 = .ok (.iload_n 2, 1) := by decide +kernel
theorem dX1_dropArticle_17 : decode cX1_dropArticle 17 = .ok (.ifCond .lt 58, 3) := by decide +kernel
theorem dX1_dropArticle_20 : decode cX1_dropArticle 20 = .ok (.aload_n 0, 1) := by decide +kernel
theorem dX1_dropArticle_21 : decode cX1_dropArticle 21 = .ok (.getfield 19, 3) := by decide +kernel
theorem dX1_dropArticle_24 : decode cX1_dropArticle 24 = .ok (.iload_n 2, 1) := by decide +kernel
theorem dX1_dropArticle_25 : decode cX1_dropArticle 25 = .ok (.aaload, 1) := by decide +kernel
theorem dX1_dropArticle_26 : decode cX1_dropArticle 26 = .ok (.getfield 66, 3) := by decide +kernel
theorem dX1_dropArticle_29 : decode cX1_dropArticle 29 = .ok (.iload_n 1, 1) := by decide +kernel
theorem dX1_dropArticle_30 : decode cX1_dropArticle 30 = .ok (.if_icmp .ne 11, 3) := by decide +kernel
theorem dX1_dropArticle_33 : decode cX1_dropArticle 33 = .ok (.aload_n 0, 1) := by decide +kernel
theorem dX1_dropArticle_34 : decode cX1_dropArticle 34 = .ok (.iload_n 2, 1) := by decide +kernel
theorem dX1_dropArticle_35 : decode cX1_dropArticle 35 = .ok (.invokevirtual 82, 3) := by decide +kernel
theorem dX1_dropArticle_38 : decode cX1_dropArticle 38 = .ok (.goto 31, 3) := by decide +kernel
theorem dX1_dropArticle_41 : decode cX1_dropArticle 41 = .ok (.aload_n 0, 1) := by decide +kernel
theorem dX1_dropArticle_42 : decode cX1_dropArticle 42 = .ok (.getfield 19, 3) := by decide +kernel
theorem dX1_dropArticle_45 : decode cX1_dropArticle 45 = .ok (.iload_n 2, 1) := by decide +kernel
theorem dX1_dropArticle_46 : decode cX1_dropArticle 46 = .ok (.aaload, 1) := by decide +kernel
theorem dX1_dropArticle_47 : decode cX1_dropArticle 47 = .ok (.getfield 66, 3) := by decide +kernel
theorem dX1_dropArticle_50 : decode cX1_dropArticle 50 = .ok (.iload_n 1, 1) := by decide +kernel
theorem dX1_dropArticle_51 : decode cX1_dropArticle 51 = .ok (.if_icmp .le 18, 3) := by decide +kernel
theorem dX1_dropArticle_54 : decode cX1_dropArticle 54 = .ok (.aload_n 0, 1) := by decide +kernel
theorem dX1_dropArticle_55 : decode cX1_dropArticle 55 = .ok (.getfield 19, 3) := by decide +kernel
theorem dX1_dropArticle_58 : decode cX1_dropArticle 58 = .ok (.iload_n 2, 1) := by decide +kernel
theorem dX1_dropArticle_59 : decode cX1_dropArticle 59 = .ok (.aaload, 1) := by decide +kernel
theorem dX1_dropArticle_60 : decode cX1_dropArticle 60 = .ok (.dup, 1) := by decide +kernel
theorem dX1_dropArticle_61 : decode cX1_dropArticle 61 = .ok (.getfield 66, 3) := by decide +kernel
theorem dX1_dropArticle_64 : decode cX1_dropArticle 64 = .ok (.iconst 1, 1) := by decide +kernel
theorem dX1_dropArticle_65 : decode cX1_dropArticle 65 = .ok (.isub, 1) := by decide +kernel
theorem dX1_dropArticle_66 : decode cX1_dropArticle 66 = .ok (.putfield 66, 3) := by decide +kernel
theorem dX1_dropArticle_69 : decode cX1_dropArticle 69 = .ok (.iinc 2 (-1), 3) := by decide +kernel
theorem dX1_dropArticle_72 : decode cX1_dropArticle 72 = .ok (.goto (-56), 3) := by decide +kernel
theorem dX1_dropArticle_75 : decode cX1_dropArticle 75 = .ok (.aload_n 0, 1) := by decide +kernel
theorem dX1_dropArticle_76 : decode cX1_dropArticle 76 = .ok (.dup, 1) := by decide +kernel
theorem dX1_dropArticle_77 : decode cX1_dropArticle 77 = .ok (.getfield 29, 3) := by decide +kernel
theorem dX1_dropArticle_80 : decode cX1_dropArticle 80 = .ok (.iconst 1, 1) := by decide +kernel
theorem dX1_dropArticle_81 : decode cX1_dropArticle 81 = .ok (.isub, 1) := by decide +kernel
theorem dX1_dropArticle_82 : decode cX1_dropArticle 82 = .ok (.putfield 29, 3) := by decide +kernel
theorem dX1_dropArticle_85 : decode cX1_dropArticle 85 = .ok (.iload_n 1, 1) := by decide +kernel
theorem dX1_dropArticle_86 : decode cX1_dropArticle 86 = .ok (.istore_n 2, 1) := by decide +kernel
theorem dX1_dropArticle_87 : decode cX1_dropArticle 87 = .ok (.iload_n 2, 1) := by decide +kernel
theorem dX1_dropArticle_88 : decode cX1_dropArticle 88 = .ok (.aload_n 0, 1) := by decide +kernel
theorem dX1_dropArticle_89 : decode cX1_dropArticle 89 = .ok (.getfield 29, 3) := by decide +kernel
theorem dX1_dropArticle_92 : decode cX1_dropArticle 92 = .ok (.if_icmp .ge 26, 3) := by decide +kernel
theorem dX1_dropArticle_95 : decode cX1_dropArticle 95 = .ok (.aload_n 0, 1) := by decide +kernel
theorem dX1_dropArticle_96 : decode cX1_dropArticle 96 = .ok (.getfield 11, 3) := by decide +kernel
theorem dX1_dropArticle_99 : decode cX1_dropArticle 99 = .ok (.iload_n 2, 1) := by decide +kernel
theorem dX1_dropArticle_100 : decode cX1_dropArticle 100 = .ok (.aaload, 1) := by decide +kernel
theorem dX1_dropArticle_101 : decode cX1_dropArticle 101 = .ok (.aload_n 0, 1) := by decide +kernel
theorem dX1_dropArticle_102 : decode cX1_dropArticle 102 = .ok (.getfield 11, 3) := by decide +kernel
theorem dX1_dropArticle_105 : decode cX1_dropArticle 105 = .ok (.iload_n 2, 1) := by decide +kernel
theorem dX1_dropArticle_106 : decode cX1_dropArticle 106 = .ok (.iconst 1, 1) := by decide +kernel
theorem dX1_dropArticle_107 : decode cX1_dropArticle 107 = .ok (.iadd, 1) := by decide +kernel
theorem dX1_dropArticle_108 : decode cX1_dropArticle 108 = .ok (.aaload, 1) := by decide +kernel
theorem dX1_dropArticle_109 : decode cX1_dropArticle 109 = .ok (.invokevirtual 33, 3) := by decide +kernel
theorem dX1_dropArticle_112 : decode cX1_dropArticle 112 = .ok (.iinc 2 1, 3) := by decide +kernel
theorem dX1_dropArticle_115 : decode cX1_dropArticle 115 = .ok (.goto (-28), 3) := by decide +kernel
theorem dX1_dropArticle_118 : decode cX1_dropArticle 118 = .ok (.return_, 1) := by decide +kernel
theorem dX1_unrest_0 : decode cX1_unrest 0 = .ok (.iconst 0, 1) := by decide +kernel
theorem dX1_unrest_1 : decode cX1_unrest 1 = .ok (.istore_n 1, 1) := by decide +kernel
theorem dX1_unrest_2 : decode cX1_unrest 2 = .ok (.iconst 0, 1) := by decide +kernel
theorem dX1_unrest_3 : decode cX1_unrest 3 = .ok (.istore_n 2, 1) := by decide +kernel
theorem dX1_unrest_4 : decode cX1_unrest 4 = .ok (.iload_n 2, 1) := by decide +kernel
theorem dX1_unrest_5 : decode cX1_unrest 5 = .ok (.iconst 3, 1) := by decide +kernel
theorem dX1_unrest_6 : decode cX1_unrest 6 = .ok (.if_icmp .ge 17, 3) := by decide +kernel
theorem dX1_unrest_9 : decode cX1_unrest 9 = .ok (.iload_n 1, 1) := by decide +kernel
theorem dX1_unrest_10 : decode cX1_unrest 10 = .ok (.aload_n 0, 1) := by decide +kernel
theorem dX1_unrest_11 : decode cX1_unrest 11 = .ok (.iload_n 2, 1) := by decide +kernel
theorem dX1_unrest_12 : decode cX1_unrest 12 = .ok (.invokevirtual 102, 3) := by decide +kernel
theorem dX1_unrest_15 : decode cX1_unrest 15 = .ok (.iadd, 1) := by decide +kernel
theorem dX1_unrest_16 : decode cX1_unrest 16 = .ok (.istore_n 1, 1) := by decide +kernel
theorem dX1_unrest_17 : decode cX1_unrest 17 = .ok (.iinc 2 1, 3) := by decide +kernel
theorem dX1_unrest_20 : decode cX1_unrest 20 = .ok (.goto (-16), 3) := by decide +kernel
theorem dX1_unrest_23 : decode cX1_unrest 23 = .ok (.iload_n 1, 1) := by decide +kernel
theorem dX1_unrest_24 : decode cX1_unrest 24 = .ok (.ireturn, 1) := by decide +kernel
theorem dX3_keep_0 : decode cX3_keep 0 = .ok (.aload_n 0, 1) := by decide +kernel
theorem dX3_keep_1 : decode cX3_keep 1 = .ok (.getfield 18, 3) := by decide +kernel
theorem dX3_keep_4 : decode cX3_keep 4 = .ok (.iconst 5, 1) := by decide +kernel
theorem dX3_keep_5 : decode cX3_keep 5 = .ok (.if_icmp .lt 7, 3) := by decide +kernel
theorem dX3_keep_8 : decode cX3_keep 8 = .ok (.aload_n 0, 1) := by decide +kernel
theorem dX3_keep_9 : decode cX3_keep 9 = .ok (.invokevirtual 22, 3) := by decide +kernel
theorem dX3_keep_12 : decode cX3_keep 12 = .ok (.aload_n 0, 1) := by decide +kernel
theorem dX3_keep_13 : decode cX3_keep 13 = .ok (.getfield 11, 3) := by decide +kernel
theorem dX3_keep_16 : decode cX3_keep 16 = .ok (.aload_n 0, 1) := by decide +kernel
theorem dX3_keep_17 : decode cX3_keep 17 = .ok (.getfield 18, 3) := by decide +kernel
theorem dX3_keep_20 : decode cX3_keep 20 = .ok (.aaload, 1) := by decide +kernel
theorem dX3_keep_21 : decode cX3_keep 21 = .ok (.aload_n 1, 1) := by decide +kernel
theorem dX3_keep_22 : decode cX3_keep 22 = .ok (.invokevirtual 25, 3) := by decide +kernel
theorem dX3_keep_25 : decode cX3_keep 25 = .ok (.aload_n 0, 1) := by decide +kernel
theorem dX3_keep_26 : decode cX3_keep 26 = .ok (.dup, 1) := by decide +kernel
theorem dX3_keep_27 : decode cX3_keep 27 = .ok (.getfield 18, 3) := by decide +kernel
theorem dX3_keep_30 : decode cX3_keep 30 = .ok (.iconst 1, 1) := by decide +kernel
theorem dX3_keep_31 : decode cX3_keep 31 = .ok (.iadd, 1) := by decide +kernel
theorem dX3_keep_32 : decode cX3_keep 32 = .ok (.putfield 18, 3) := by decide +kernel
theorem dX3_keep_35 : decode cX3_keep 35 = .ok (.return_, 1) := by decide +kernel
theorem dX3_giveBackTo_0 : decode cX3_giveBackTo 0 = .ok (.aload_n 0, 1) := by decide +kernel
theorem dX3_giveBackTo_1 : decode cX3_giveBackTo 1 = .ok (.getfield 18, 3) := by decide +kernel
theorem dX3_giveBackTo_4 : decode cX3_giveBackTo 4 = .ok (.ifCond .le 26, 3) := by decide +kernel
theorem dX3_giveBackTo_7 : decode cX3_giveBackTo 7 = .ok (.aload_n 0, 1) := by decide +kernel
theorem dX3_giveBackTo_8 : decode cX3_giveBackTo 8 = .ok (.dup, 1) := by decide +kernel
theorem dX3_giveBackTo_9 : decode cX3_giveBackTo 9 = .ok (.getfield 18, 3) := by decide +kernel
theorem dX3_giveBackTo_12 : decode cX3_giveBackTo 12 = .ok (.iconst 1, 1) := by decide +kernel
theorem dX3_giveBackTo_13 : decode cX3_giveBackTo 13 = .ok (.isub, 1) := by decide +kernel
theorem dX3_giveBackTo_14 : decode cX3_giveBackTo 14 = .ok (.putfield 18, 3) := by decide +kernel
theorem dX3_giveBackTo_17 : decode cX3_giveBackTo 17 = .ok (.aload_n 1, 1) := by decide +kernel
theorem dX3_giveBackTo_18 : decode cX3_giveBackTo 18 = .ok (.aload_n 0, 1) := by decide +kernel
theorem dX3_giveBackTo_19 : decode cX3_giveBackTo 19 = .ok (.getfield 11, 3) := by decide +kernel
theorem dX3_giveBackTo_22 : decode cX3_giveBackTo 22 = .ok (.aload_n 0, 1) := by decide +kernel
theorem dX3_giveBackTo_23 : decode cX3_giveBackTo 23 = .ok (.getfield 18, 3) := by decide +kernel
theorem dX3_giveBackTo_26 : decode cX3_giveBackTo 26 = .ok (.aaload, 1) := by decide +kernel
theorem dX3_giveBackTo_27 : decode cX3_giveBackTo 27 = .ok (.invokevirtual 25, 3) := by decide +kernel
theorem dX3_giveBackTo_30 : decode cX3_giveBackTo 30 = .ok (.return_, 1) := by decide +kernel
theorem dX6_readLines_0 : decode cX6_readLines 0 = .ok (.iconst 0, 1) := by decide +kernel
theorem dX6_readLines_1 : decode cX6_readLines 1 = .ok (.istore_n 2, 1) := by decide +kernel
theorem dX6_readLines_2 : decode cX6_readLines 2 = .ok (.iload_n 2, 1) := by decide +kernel
theorem dX6_readLines_3 : decode cX6_readLines 3 = .ok (.bipush 8, 2) := by decide +kernel
theorem dX6_readLines_5 : decode cX6_readLines 5 = .ok (.if_icmp .gt 89, 3) := by decide +kernel
theorem dX6_readLines_8 : decode cX6_readLines 8 = .ok (.aload_n 0, 1) := by decide +kernel
theorem dX6_readLines_9 : decode cX6_readLines 9 = .ok (.invokevirtual 39, 3) := by decide +kernel
theorem dX6_readLines_12 : decode cX6_readLines 12 = .ok (.ifCond .ne 82, 3) := by decide +kernel
theorem dX6_readLines_15 : decode cX6_readLines 15 = .ok (.aload_n 0, 1) := by decide +kernel
theorem dX6_readLines_16 : decode cX6_readLines 16 = .ok (.invokevirtual 43, 3) := by decide +kernel
theorem dX6_readLines_19 : decode cX6_readLines 19 = .ok (.pop, 1) := by decide +kernel
theorem dX6_readLines_20 : decode cX6_readLines 20 = .ok (.aload_n 0, 1) := by decide +kernel
theorem dX6_readLines_21 : decode cX6_readLines 21 = .ok (.getfield 36, 3) := by decide +kernel
theorem dX6_readLines_24 : decode cX6_readLines 24 = .ok (.istore_n 3, 1) := by decide +kernel
theorem dX6_readLines_25 : decode cX6_readLines 25 = .ok (.aload_n 0, 1) := by decide +kernel
theorem dX6_readLines_26 : decode cX6_readLines 26 = .ok (.iconst 0, 1) := by decide +kernel
theorem dX6_readLines_27 : decode cX6_readLines 27 = .ok (.aload_n 1, 1) := by decide +kernel
theorem dX6_readLines_28 : decode cX6_readLines 28 = .ok (.getfield 88, 3) := by decide +kernel
theorem dX6_readLines_31 : decode cX6_readLines 31 = .ok (.iconst 1, 1) := by decide +kernel
theorem dX6_readLines_32 : decode cX6_readLines 32 = .ok (.isub, 1) := by decide +kernel
theorem dX6_readLines_33 : decode cX6_readLines 33 = .ok (.invokevirtual 69, 3) := by decide +kernel
theorem dX6_readLines_36 : decode cX6_readLines 36 = .ok (.istore 4, 2) := by decide +kernel
theorem dX6_readLines_38 : decode cX6_readLines 38 = .ok (.aload_n 0, 1) := by decide +kernel
theorem dX6_readLines_39 : decode cX6_readLines 39 = .ok (.invokevirtual 39, 3) := by decide +kernel
theorem dX6_readLines_42 : decode cX6_readLines 42 = .ok (.ifCond .eq 4, 3) := by decide +kernel
theorem dX6_readLines_45 : decode cX6_readLines 45 = .ok (.return_, 1) := by decide +kernel
theorem dX6_readLines_46 : decode cX6_readLines 46 = .ok (.aload_n 1, 1) := by decide +kernel
theorem dX6_readLines_47 : decode cX6_readLines 47 = .ok (.getfield 93, 3) := by decide +kernel
theorem dX6_readLines_50 : decode cX6_readLines 50 = .ok (.bipush 8, 2) := by decide +kernel
theorem dX6_readLines_52 : decode cX6_readLines 52 = .ok (.if_icmp .lt 9, 3) := by decide +kernel
theorem dX6_readLines_55 : decode cX6_readLines 55 = .ok (.aload_n 0, 1) := by decide +kernel
theorem dX6_readLines_56 : decode cX6_readLines 56 = .ok (.iload_n 3, 1) := by decide +kernel
theorem dX6_readLines_57 : decode cX6_readLines 57 = .ok (.invokevirtual 62, 3) := by decide +kernel
theorem dX6_readLines_60 : decode cX6_readLines 60 = .ok (.return_, 1) := by decide +kernel
theorem dX6_readLines_61 : decode cX6_readLines 61 = .ok (.aload_n 1, 1) := by decide +kernel
theorem dX6_readLines_62 : decode cX6_readLines 62 = .ok (.iload 4, 2) := by decide +kernel
theorem dX6_readLines_64 : decode cX6_readLines 64 = .ok (.invokevirtual 96, 3) := by decide +kernel
theorem dX6_readLines_67 : decode cX6_readLines 67 = .ok (.pop, 1) := by decide +kernel
theorem dX6_readLines_68 : decode cX6_readLines 68 = .ok (.aload_n 0, 1) := by decide +kernel
theorem dX6_readLines_69 : decode cX6_readLines 69 = .ok (.invokevirtual 43, 3) := by decide +kernel
theorem dX6_readLines_72 : decode cX6_readLines 72 = .ok (.bipush 44, 2) := by decide +kernel
theorem dX6_readLines_74 : decode cX6_readLines 74 = .ok (.if_icmp .eq 4, 3) := by decide +kernel
theorem dX6_readLines_77 : decode cX6_readLines 77 = .ok (.return_, 1) := by decide +kernel
theorem dX6_readLines_78 : decode cX6_readLines 78 = .ok (.aload_n 0, 1) := by decide +kernel
theorem dX6_readLines_79 : decode cX6_readLines 79 = .ok (.dup, 1) := by decide +kernel
theorem dX6_readLines_80 : decode cX6_readLines 80 = .ok (.getfield 36, 3) := by decide +kernel
theorem dX6_readLines_83 : decode cX6_readLines 83 = .ok (.iconst 1, 1) := by decide +kernel
theorem dX6_readLines_84 : decode cX6_readLines 84 = .ok (.iadd, 1) := by decide +kernel
theorem dX6_readLines_85 : decode cX6_readLines 85 = .ok (.putfield 36, 3) := by decide +kernel
theorem dX6_readLines_88 : decode cX6_readLines 88 = .ok (.iinc 2 1, 3) := by decide +kernel
theorem dX6_readLines_91 : decode cX6_readLines 91 = .ok (.goto (-89), 3) := by decide +kernel
theorem dX6_readLines_94 : decode cX6_readLines 94 = .ok (.return_, 1) := by decide +kernel
theorem dX6_readQuote_0 : decode cX6_readQuote 0 = .ok (.aload_n 0, 1) := by decide +kernel
theorem dX6_readQuote_1 : decode cX6_readQuote 1 = .ok (.iconst 0, 1) := by decide +kernel
theorem dX6_readQuote_2 : decode cX6_readQuote 2 = .ok (.aload_n 0, 1) := by decide +kernel
theorem dX6_readQuote_3 : decode cX6_readQuote 3 = .ok (.getfield 21, 3) := by decide +kernel
theorem dX6_readQuote_6 : decode cX6_readQuote 6 = .ok (.getfield 50, 3) := by decide +kernel
theorem dX6_readQuote_9 : decode cX6_readQuote 9 = .ok (.iconst 1, 1) := by decide +kernel
theorem dX6_readQuote_10 : decode cX6_readQuote 10 = .ok (.isub, 1) := by decide +kernel
theorem dX6_readQuote_11 : decode cX6_readQuote 11 = .ok (.invokevirtual 69, 3) := by decide +kernel
theorem dX6_readQuote_14 : decode cX6_readQuote 14 = .ok (.istore_n 1, 1) := by decide +kernel
theorem dX6_readQuote_15 : decode cX6_readQuote 15 = .ok (.aload_n 0, 1) := by decide +kernel
theorem dX6_readQuote_16 : decode cX6_readQuote 16 = .ok (.invokevirtual 39, 3) := by decide +kernel
theorem dX6_readQuote_19 : decode cX6_readQuote 19 = .ok (.ifCond .ne 14, 3) := by decide +kernel
theorem dX6_readQuote_22 : decode cX6_readQuote 22 = .ok (.aload_n 0, 1) := by decide +kernel
theorem dX6_readQuote_23 : decode cX6_readQuote 23 = .ok (.getfield 21, 3) := by decide +kernel
theorem dX6_readQuote_26 : decode cX6_readQuote 26 = .ok (.iload_n 1, 1) := by decide +kernel
theorem dX6_readQuote_27 : decode cX6_readQuote 27 = .ok (.invokevirtual 76, 3) := by decide +kernel
theorem dX6_readQuote_30 : decode cX6_readQuote 30 = .ok (.ifCond .ne 4, 3) := by decide +kernel
theorem dX6_readQuote_33 : decode cX6_readQuote 33 = .ok (.return_, 1) := by decide +kernel
theorem dX6_readQuote_34 : decode cX6_readQuote 34 = .ok (.aload_n 0, 1) := by decide +kernel
theorem dX6_readQuote_35 : decode cX6_readQuote 35 = .ok (.iconst 0, 1) := by decide +kernel
theorem dX6_readQuote_36 : decode cX6_readQuote 36 = .ok (.aload_n 0, 1) := by decide +kernel
theorem dX6_readQuote_37 : decode cX6_readQuote 37 = .ok (.getfield 21, 3) := by decide +kernel
theorem dX6_readQuote_40 : decode cX6_readQuote 40 = .ok (.getfield 80, 3) := by decide +kernel
theorem dX6_readQuote_43 : decode cX6_readQuote 43 = .ok (.iload_n 1, 1) := by decide +kernel
theorem dX6_readQuote_44 : decode cX6_readQuote 44 = .ok (.aaload, 1) := by decide +kernel
theorem dX6_readQuote_45 : decode cX6_readQuote 45 = .ok (.getfield 93, 3) := by decide +kernel
theorem dX6_readQuote_48 : decode cX6_readQuote 48 = .ok (.iconst 1, 1) := by decide +kernel
theorem dX6_readQuote_49 : decode cX6_readQuote 49 = .ok (.isub, 1) := by decide +kernel
theorem dX6_readQuote_50 : decode cX6_readQuote 50 = .ok (.invokevirtual 69, 3) := by decide +kernel
theorem dX6_readQuote_53 : decode cX6_readQuote 53 = .ok (.istore_n 2, 1) := by decide +kernel
theorem dX6_readQuote_54 : decode cX6_readQuote 54 = .ok (.aload_n 0, 1) := by decide +kernel
theorem dX6_readQuote_55 : decode cX6_readQuote 55 = .ok (.iconst 1, 1) := by decide +kernel
theorem dX6_readQuote_56 : decode cX6_readQuote 56 = .ok (.iconst 3, 1) := by decide +kernel
theorem dX6_readQuote_57 : decode cX6_readQuote 57 = .ok (.invokevirtual 69, 3) := by decide +kernel
theorem dX6_readQuote_60 : decode cX6_readQuote 60 = .ok (.istore_n 3, 1) := by decide +kernel
theorem dX6_readQuote_61 : decode cX6_readQuote 61 = .ok (.aload_n 0, 1) := by decide +kernel
theorem dX6_readQuote_62 : decode cX6_readQuote 62 = .ok (.bipush 120, 2) := by decide +kernel
theorem dX6_readQuote_64 : decode cX6_readQuote 64 = .ok (.invokevirtual 66, 3) := by decide +kernel
theorem dX6_readQuote_67 : decode cX6_readQuote 67 = .ok (.aload_n 0, 1) := by decide +kernel
theorem dX6_readQuote_68 : decode cX6_readQuote 68 = .ok (.iconst 1, 1) := by decide +kernel
theorem dX6_readQuote_69 : decode cX6_readQuote 69 = .ok (.bipush 6, 2) := by decide +kernel
theorem dX6_readQuote_71 : decode cX6_readQuote 71 = .ok (.invokevirtual 69, 3) := by decide +kernel
theorem dX6_readQuote_74 : decode cX6_readQuote 74 = .ok (.istore 4, 2) := by decide +kernel
theorem dX6_readQuote_76 : decode cX6_readQuote 76 = .ok (.aload_n 0, 1) := by decide +kernel
theorem dX6_readQuote_77 : decode cX6_readQuote 77 = .ok (.invokevirtual 39, 3) := by decide +kernel
theorem dX6_readQuote_80 : decode cX6_readQuote 80 = .ok (.ifCond .ne 16, 3) := by decide +kernel
theorem dX6_readQuote_83 : decode cX6_readQuote 83 = .ok (.aload_n 0, 1) := by decide +kernel
theorem dX6_readQuote_84 : decode cX6_readQuote 84 = .ok (.getfield 21, 3) := by decide +kernel
theorem dX6_readQuote_87 : decode cX6_readQuote 87 = .ok (.iload_n 1, 1) := by decide +kernel
theorem dX6_readQuote_88 : decode cX6_readQuote 88 = .ok (.iload_n 2, 1) := by decide +kernel
theorem dX6_readQuote_89 : decode cX6_readQuote 89 = .ok (.iload_n 3, 1) := by decide +kernel
theorem dX6_readQuote_90 : decode cX6_readQuote 90 = .ok (.iload 4, 2) := by decide +kernel
theorem dX6_readQuote_92 : decode cX6_readQuote 92 = .ok (.invokevirtual 100, 3) := by decide +kernel
theorem dX6_readQuote_95 : decode cX6_readQuote 95 = .ok (.pop, 1) := by decide +kernel
theorem dX6_readQuote_96 : decode cX6_readQuote 96 = .ok (.return_, 1) := by decide +kernel
theorem dX9_prepare_0 : decode cX9_prepare 0 = .ok (.aload_n 0, 1) := by decide +kernel
theorem dX9_prepare_1 : decode cX9_prepare 1 = .ok (.getfield 12, 3) := by decide +kernel
theorem dX9_prepare_4 : decode cX9_prepare 4 = .ok (.aload_n 1, 1) := by decide +kernel
theorem dX9_prepare_5 : decode cX9_prepare 5 = .ok (.invokevirtual 28, 3) := by decide +kernel
theorem dX9_prepare_8 : decode cX9_prepare 8 = .ok (.aload_n 0, 1) := by decide +kernel
theorem dX9_prepare_9 : decode cX9_prepare 9 = .ok (.iload_n 2, 1) := by decide +kernel
theorem dX9_prepare_10 : decode cX9_prepare 10 = .ok (.putfield 32, 3) := by decide +kernel
theorem dX9_prepare_13 : decode cX9_prepare 13 = .ok (.aload_n 0, 1) := by decide +kernel
theorem dX9_prepare_14 : decode cX9_prepare 14 = .ok (.getfield 12, 3) := by decide +kernel
theorem dX9_prepare_17 : decode cX9_prepare 17 = .ok (.getfield 36, 3) := by decide +kernel
theorem dX9_prepare_20 : decode cX9_prepare 20 = .ok (.aload_n 0, 1) := by decide +kernel
theorem dX9_prepare_21 : decode cX9_prepare 21 = .ok (.getfield 32, 3) := by decide +kernel
theorem dX9_prepare_24 : decode cX9_prepare 24 = .ok (.aaload, 1) := by decide +kernel
theorem dX9_prepare_25 : decode cX9_prepare 25 = .ok (.iconst 0, 1) := by decide +kernel
theorem dX9_prepare_26 : decode cX9_prepare 26 = .ok (.putfield 40, 3) := by decide +kernel
theorem dX9_prepare_29 : decode cX9_prepare 29 = .ok (.aload_n 0, 1) := by decide +kernel
theorem dX9_prepare_30 : decode cX9_prepare 30 = .ok (.getfield 21, 3) := by decide +kernel
theorem dX9_prepare_33 : decode cX9_prepare 33 = .ok (.aload_n 0, 1) := by decide +kernel
theorem dX9_prepare_34 : decode cX9_prepare 34 = .ok (.getfield 12, 3) := by decide +kernel
theorem dX9_prepare_37 : decode cX9_prepare 37 = .ok (.invokevirtual 46, 3) := by decide +kernel
theorem dX9_prepare_40 : decode cX9_prepare 40 = .ok (.return_, 1) := by decide +kernel
theorem dX9_isBadlyDistant_0 : decode cX9_isBadlyDistant 0 = .ok (.aload_n 0, 1) := by decide +kernel
theorem dX9_isBadlyDistant_1 : decode cX9_isBadlyDistant 1 = .ok (.getfield 25, 3) := by decide +kernel
theorem dX9_isBadlyDistant_4 : decode cX9_isBadlyDistant 4 = .ok (.aload_n 0, 1) := by decide +kernel
theorem dX9_isBadlyDistant_5 : decode cX9_isBadlyDistant 5 = .ok (.getfield 12, 3) := by decide +kernel
theorem dX9_isBadlyDistant_8 : decode cX9_isBadlyDistant 8 = .ok (.aload_n 1, 1) := by decide +kernel
theorem dX9_isBadlyDistant_9 : decode cX9_isBadlyDistant 9 = .ok (.invokevirtual 109, 3) := by decide +kernel
theorem dX9_isBadlyDistant_12 : decode cX9_isBadlyDistant 12 = .ok (.istore_n 2, 1) := by decide +kernel
theorem dX9_isBadlyDistant_13 : decode cX9_isBadlyDistant 13 = .ok (.iload_n 2, 1) := by decide +kernel
theorem dX9_isBadlyDistant_14 : decode cX9_isBadlyDistant 14 = .ok (.bipush (-99), 2) := by decide +kernel
theorem dX9_isBadlyDistant_16 : decode cX9_isBadlyDistant 16 = .ok (.if_icmp .eq 32, 3) := by decide +kernel
theorem dX9_isBadlyDistant_19 : decode cX9_isBadlyDistant 19 = .ok (.iload_n 2, 1) := by decide +kernel
theorem dX9_isBadlyDistant_20 : decode cX9_isBadlyDistant 20 = .ok (.aload_n 0, 1) := by decide +kernel
theorem dX9_isBadlyDistant_21 : decode cX9_isBadlyDistant 21 = .ok (.getfield 12, 3) := by decide +kernel
theorem dX9_isBadlyDistant_24 : decode cX9_isBadlyDistant 24 = .ok (.getfield 82, 3) := by decide +kernel
theorem dX9_isBadlyDistant_27 : decode cX9_isBadlyDistant 27 = .ok (.iconst 0, 1) := by decide +kernel
theorem dX9_isBadlyDistant_28 : decode cX9_isBadlyDistant 28 = .ok (.iaload, 1) := by decide +kernel
theorem dX9_isBadlyDistant_29 : decode cX9_isBadlyDistant 29 = .ok (.aload_n 0, 1) := by decide +kernel
theorem dX9_isBadlyDistant_30 : decode cX9_isBadlyDistant 30 = .ok (.getfield 12, 3) := by decide +kernel
theorem dX9_isBadlyDistant_33 : decode cX9_isBadlyDistant 33 = .ok (.getfield 82, 3) := by decide +kernel
theorem dX9_isBadlyDistant_36 : decode cX9_isBadlyDistant 36 = .ok (.iconst 1, 1) := by decide +kernel
theorem dX9_isBadlyDistant_37 : decode cX9_isBadlyDistant 37 = .ok (.iaload, 1) := by decide +kernel
theorem dX9_isBadlyDistant_38 : decode cX9_isBadlyDistant 38 = .ok (.invokestatic 113, 3) := by decide +kernel
theorem dX9_isBadlyDistant_41 : decode cX9_isBadlyDistant 41 = .ok (.ifCond .ne 7, 3) := by decide +kernel
theorem dX9_isBadlyDistant_44 : decode cX9_isBadlyDistant 44 = .ok (.iconst 1, 1) := by decide +kernel
theorem dX9_isBadlyDistant_45 : decode cX9_isBadlyDistant 45 = .ok (.goto 4, 3) := by decide +kernel
theorem dX9_isBadlyDistant_48 : decode cX9_isBadlyDistant 48 = .ok (.iconst 0, 1) := by decide +kernel
theorem dX9_isBadlyDistant_49 : decode cX9_isBadlyDistant 49 = .ok (.ireturn, 1) := by decide +kernel
theorem dX9_greatestLength_0 : decode cX9_greatestLength 0 = .ok (.aload_n 0, 1) := by decide +kernel
theorem dX9_greatestLength_1 : decode cX9_greatestLength 1 = .ok (.getfield 12, 3) := by decide +kernel
theorem dX9_greatestLength_4 : decode cX9_greatestLength 4 = .ok (.aload_n 1, 1) := by decide +kernel
theorem dX9_greatestLength_5 : decode cX9_greatestLength 5 = .ok (.invokevirtual 28, 3) := by decide +kernel
theorem dX9_greatestLength_8 : decode cX9_greatestLength 8 = .ok (.aload_n 0, 1) := by decide +kernel
theorem dX9_greatestLength_9 : decode cX9_greatestLength 9 = .ok (.getfield 21, 3) := by decide +kernel
theorem dX9_greatestLength_12 : decode cX9_greatestLength 12 = .ok (.aload_n 0, 1) := by decide +kernel
theorem dX9_greatestLength_13 : decode cX9_greatestLength 13 = .ok (.getfield 12, 3) := by decide +kernel
theorem dX9_greatestLength_16 : decode cX9_greatestLength 16 = .ok (.invokevirtual 46, 3) := by decide +kernel
theorem dX9_greatestLength_19 : decode cX9_greatestLength 19 = .ok (.aload_n 0, 1) := by decide +kernel
theorem dX9_greatestLength_20 : decode cX9_greatestLength 20 = .ok (.getfield 12, 3) := by decide +kernel
theorem dX9_greatestLength_23 : decode cX9_greatestLength 23 = .ok (.getfield 138, 3) := by decide +kernel
theorem dX9_greatestLength_26 : decode cX9_greatestLength 26 = .ok (.iload_n 2, 1) := by decide +kernel
theorem dX9_greatestLength_27 : decode cX9_greatestLength 27 = .ok (.aaload, 1) := by decide +kernel
theorem dX9_greatestLength_28 : decode cX9_greatestLength 28 = .ok (.astore_n 3, 1) := by decide +kernel
theorem dX9_greatestLength_29 : decode cX9_greatestLength 29 = .ok (.aload_n 3, 1) := by decide +kernel
theorem dX9_greatestLength_30 : decode cX9_greatestLength 30 = .ok (.getfield 142, 3) := by decide +kernel
theorem dX9_greatestLength_33 : decode cX9_greatestLength 33 = .ok (.istore 4, 2) := by decide +kernel
theorem dX9_greatestLength_35 : decode cX9_greatestLength 35 = .ok (.sipush 201, 3) := by decide +kernel
theorem dX9_greatestLength_38 : decode cX9_greatestLength 38 = .ok (.istore 5, 2) := by decide +kernel
theorem dX9_greatestLength_40 : decode cX9_greatestLength 40 = .ok (.iconst 0, 1) := by decide +kernel
theorem dX9_greatestLength_41 : decode cX9_greatestLength 41 = .ok (.istore 6, 2) := by decide +kernel
theorem dX9_greatestLength_43 : decode cX9_greatestLength 43 = .ok (.iload 6, 2) := by decide +kernel
theorem dX9_greatestLength_45 : decode cX9_greatestLength 45 = .ok (.sipush 200, 3) := by decide +kernel
theorem dX9_greatestLength_48 : decode cX9_greatestLength 48 = .ok (.if_icmp .ge 69, 3) := by decide +kernel
theorem dX9_greatestLength_51 : decode cX9_greatestLength 51 = .ok (.iload 5, 2) := by decide +kernel
theorem dX9_greatestLength_53 : decode cX9_greatestLength 53 = .ok (.iload 4, 2) := by decide +kernel
theorem dX9_greatestLength_55 : decode cX9_greatestLength 55 = .ok (.isub, 1) := by decide +kernel
theorem dX9_greatestLength_56 : decode cX9_greatestLength 56 = .ok (.iconst 1, 1) := by decide +kernel
theorem dX9_greatestLength_57 : decode cX9_greatestLength 57 = .ok (.if_icmp .le 60, 3) := by decide +kernel
theorem dX9_greatestLength_60 : decode cX9_greatestLength 60 = .ok (.iload 4, 2) := by decide +kernel
theorem dX9_greatestLength_62 : decode cX9_greatestLength 62 = .ok (.iload 5, 2) := by decide +kernel
theorem dX9_greatestLength_64 : decode cX9_greatestLength 64 = .ok (.iadd, 1) := by decide +kernel
theorem dX9_greatestLength_65 : decode cX9_greatestLength 65 = .ok (.iconst 2, 1) := by decide +kernel
theorem dX9_greatestLength_66 : decode cX9_greatestLength 66 = .ok (.idiv, 1) := by decide +kernel
theorem dX9_greatestLength_67 : decode cX9_greatestLength 67 = .ok (.istore 7, 2) := by decide +kernel
theorem dX9_greatestLength_69 : decode cX9_greatestLength 69 = .ok (.aload_n 3, 1) := by decide +kernel
theorem dX9_greatestLength_70 : decode cX9_greatestLength 70 = .ok (.iload 7, 2) := by decide +kernel
theorem dX9_greatestLength_72 : decode cX9_greatestLength 72 = .ok (.putfield 142, 3) := by decide +kernel
theorem dX9_greatestLength_75 : decode cX9_greatestLength 75 = .ok (.aload_n 0, 1) := by decide +kernel
theorem dX9_greatestLength_76 : decode cX9_greatestLength 76 = .ok (.getfield 25, 3) := by decide +kernel
theorem dX9_greatestLength_79 : decode cX9_greatestLength 79 = .ok (.aload_n 0, 1) := by decide +kernel
theorem dX9_greatestLength_80 : decode cX9_greatestLength 80 = .ok (.getfield 12, 3) := by decide +kernel
theorem dX9_greatestLength_83 : decode cX9_greatestLength 83 = .ok (.invokevirtual 46, 3) := by decide +kernel
theorem dX9_greatestLength_86 : decode cX9_greatestLength 86 = .ok (.aload_n 0, 1) := by decide +kernel
theorem dX9_greatestLength_87 : decode cX9_greatestLength 87 = .ok (.getfield 25, 3) := by decide +kernel
theorem dX9_greatestLength_90 : decode cX9_greatestLength 90 = .ok (.aload_n 0, 1) := by decide +kernel
theorem dX9_greatestLength_91 : decode cX9_greatestLength 91 = .ok (.getfield 21, 3) := by decide +kernel
theorem dX9_greatestLength_94 : decode cX9_greatestLength 94 = .ok (.invokevirtual 86, 3) := by decide +kernel
theorem dX9_greatestLength_97 : decode cX9_greatestLength 97 = .ok (.ifCond .eq 10, 3) := by decide +kernel
theorem dX9_greatestLength_100 : decode cX9_greatestLength 100 = .ok (.iload 7, 2) := by decide +kernel
theorem dX9_greatestLength_102 : decode cX9_greatestLength 102 = .ok (.istore 5, 2) := by decide +kernel
theorem dX9_greatestLength_104 : decode cX9_greatestLength 104 = .ok (.goto 7, 3) := by decide +kernel
theorem dX9_greatestLength_107 : decode cX9_greatestLength 107 = .ok (.iload 7, 2) := by decide +kernel
theorem dX9_greatestLength_109 : decode cX9_greatestLength 109 = .ok (.istore 4, 2) := by decide +kernel
theorem dX9_greatestLength_111 : decode cX9_greatestLength 111 = .ok (.iinc 6 1, 3) := by decide +kernel
theorem dX9_greatestLength_114 : decode cX9_greatestLength 114 = .ok (.goto (-71), 3) := by decide +kernel
theorem dX9_greatestLength_117 : decode cX9_greatestLength 117 = .ok (.iload 4, 2) := by decide +kernel
theorem dX9_greatestLength_119 : decode cX9_greatestLength 119 = .ok (.ireturn, 1) := by decide +kernel
theorem dX10_currentLayout_0 : decode cX10_currentLayout 0 = .ok (.aload_n 0, 1) := by decide +kernel
theorem dX10_currentLayout_1 : decode cX10_currentLayout 1 = .ok (.getfield 49, 3) := by decide +kernel
theorem dX10_currentLayout_4 : decode cX10_currentLayout 4 = .ok (.ifCond .eq 22, 3) := by decide +kernel
theorem dX10_currentLayout_7 : decode cX10_currentLayout 7 = .ok (.aload_n 0, 1) := by decide +kernel
theorem dX10_currentLayout_8 : decode cX10_currentLayout 8 = .ok (.getfield 45, 3) := by decide +kernel
theorem dX10_currentLayout_11 : decode cX10_currentLayout 11 = .ok (.aload_n 0, 1) := by decide +kernel
theorem dX10_currentLayout_12 : decode cX10_currentLayout 12 = .ok (.getfield 12, 3) := by decide +kernel
theorem dX10_currentLayout_15 : decode cX10_currentLayout 15 = .ok (.getfield 53, 3) := by decide +kernel
theorem dX10_currentLayout_18 : decode cX10_currentLayout 18 = .ok (.invokevirtual 289, 3) := by decide +kernel
theorem dX10_currentLayout_21 : decode cX10_currentLayout 21 = .ok (.aload_n 0, 1) := by decide +kernel
theorem dX10_currentLayout_22 : decode cX10_currentLayout 22 = .ok (.iconst 0, 1) := by decide +kernel
theorem dX10_currentLayout_23 : decode cX10_currentLayout 23 = .ok (.putfield 49, 3) := by decide +kernel
theorem dX10_currentLayout_26 : decode cX10_currentLayout 26 = .ok (.aload_n 0, 1) := by decide +kernel
theorem dX10_currentLayout_27 : decode cX10_currentLayout 27 = .ok (.getfield 45, 3) := by decide +kernel
theorem dX10_currentLayout_30 : decode cX10_currentLayout 30 = .ok (.areturn, 1) := by decide +kernel
theorem dX6_readArticle_0 : decode cX6_readArticle 0 = .ok (.aload_n 0, 1) := by decide +kernel
theorem dX6_readArticle_1 : decode cX6_readArticle 1 = .ok (.iconst 0, 1) := by decide +kernel
theorem dX6_readArticle_2 : decode cX6_readArticle 2 = .ok (.sipush 359, 3) := by decide +kernel
theorem dX6_readArticle_5 : decode cX6_readArticle 5 = .ok (.invokevirtual 69, 3) := by decide +kernel
theorem dX6_readArticle_8 : decode cX6_readArticle 8 = .ok (.istore_n 1, 1) := by decide +kernel
theorem dX6_readArticle_9 : decode cX6_readArticle 9 = .ok (.aload_n 0, 1) := by decide +kernel
theorem dX6_readArticle_10 : decode cX6_readArticle 10 = .ok (.iconst 1, 1) := by decide +kernel
theorem dX6_readArticle_11 : decode cX6_readArticle 11 = .ok (.sipush 200, 3) := by decide +kernel
theorem dX6_readArticle_14 : decode cX6_readArticle 14 = .ok (.invokevirtual 69, 3) := by decide +kernel
theorem dX6_readArticle_17 : decode cX6_readArticle 17 = .ok (.istore_n 2, 1) := by decide +kernel
theorem dX6_readArticle_18 : decode cX6_readArticle 18 = .ok (.aload_n 0, 1) := by decide +kernel
theorem dX6_readArticle_19 : decode cX6_readArticle 19 = .ok (.invokevirtual 39, 3) := by decide +kernel
theorem dX6_readArticle_22 : decode cX6_readArticle 22 = .ok (.ifCond .eq 4, 3) := by decide +kernel
theorem dX6_readArticle_25 : decode cX6_readArticle 25 = .ok (.return_, 1) := by decide +kernel
theorem dX6_readArticle_26 : decode cX6_readArticle 26 = .ok (.aload_n 0, 1) := by decide +kernel
theorem dX6_readArticle_27 : decode cX6_readArticle 27 = .ok (.getfield 21, 3) := by decide +kernel
theorem dX6_readArticle_30 : decode cX6_readArticle 30 = .ok (.iload_n 1, 1) := by decide +kernel
theorem dX6_readArticle_31 : decode cX6_readArticle 31 = .ok (.iload_n 2, 1) := by decide +kernel
theorem dX6_readArticle_32 : decode cX6_readArticle 32 = .ok (.invokevirtual 73, 3) := by decide +kernel
theorem dX6_readArticle_35 : decode cX6_readArticle 35 = .ok (.istore_n 3, 1) := by decide +kernel
theorem dX6_readArticle_36 : decode cX6_readArticle 36 = .ok (.aload_n 0, 1) := by decide +kernel
theorem dX6_readArticle_37 : decode cX6_readArticle 37 = .ok (.invokevirtual 43, 3) := by decide +kernel
theorem dX6_readArticle_40 : decode cX6_readArticle 40 = .ok (.bipush 58, 2) := by decide +kernel
theorem dX6_readArticle_42 : decode cX6_readArticle 42 = .ok (.if_icmp .ne 37, 3) := by decide +kernel
theorem dX6_readArticle_45 : decode cX6_readArticle 45 = .ok (.aload_n 0, 1) := by decide +kernel
theorem dX6_readArticle_46 : decode cX6_readArticle 46 = .ok (.getfield 21, 3) := by decide +kernel
theorem dX6_readArticle_49 : decode cX6_readArticle 49 = .ok (.iload_n 3, 1) := by decide +kernel
theorem dX6_readArticle_50 : decode cX6_readArticle 50 = .ok (.invokevirtual 76, 3) := by decide +kernel
theorem dX6_readArticle_53 : decode cX6_readArticle 53 = .ok (.ifCond .eq 26, 3) := by decide +kernel
theorem dX6_readArticle_56 : decode cX6_readArticle 56 = .ok (.aload_n 0, 1) := by decide +kernel
theorem dX6_readArticle_57 : decode cX6_readArticle 57 = .ok (.dup, 1) := by decide +kernel
theorem dX6_readArticle_58 : decode cX6_readArticle 58 = .ok (.getfield 36, 3) := by decide +kernel
theorem dX6_readArticle_61 : decode cX6_readArticle 61 = .ok (.iconst 1, 1) := by decide +kernel
theorem dX6_readArticle_62 : decode cX6_readArticle 62 = .ok (.iadd, 1) := by decide +kernel
theorem dX6_readArticle_63 : decode cX6_readArticle 63 = .ok (.putfield 36, 3) := by decide +kernel
theorem dX6_readArticle_66 : decode cX6_readArticle 66 = .ok (.aload_n 0, 1) := by decide +kernel
theorem dX6_readArticle_67 : decode cX6_readArticle 67 = .ok (.aload_n 0, 1) := by decide +kernel
theorem dX6_readArticle_68 : decode cX6_readArticle 68 = .ok (.getfield 21, 3) := by decide +kernel
theorem dX6_readArticle_71 : decode cX6_readArticle 71 = .ok (.getfield 80, 3) := by decide +kernel
theorem dX6_readArticle_74 : decode cX6_readArticle 74 = .ok (.iload_n 3, 1) := by decide +kernel
theorem dX6_readArticle_75 : decode cX6_readArticle 75 = .ok (.aaload, 1) := by decide +kernel
theorem dX6_readArticle_76 : decode cX6_readArticle 76 = .ok (.invokevirtual 84, 3) := by decide +kernel
theorem dX6_readArticle_79 : decode cX6_readArticle 79 = .ok (.return_, 1) := by decide +kernel
theorem dX9_reasonInLayout_0 : decode cX9_reasonInLayout 0 = .ok (.aload_n 0, 1) := by decide +kernel
theorem dX9_reasonInLayout_1 : decode cX9_reasonInLayout 1 = .ok (.getfield 25, 3) := by decide +kernel
theorem dX9_reasonInLayout_4 : decode cX9_reasonInLayout 4 = .ok (.aload_n 0, 1) := by decide +kernel
theorem dX9_reasonInLayout_5 : decode cX9_reasonInLayout 5 = .ok (.getfield 21, 3) := by decide +kernel
theorem dX9_reasonInLayout_8 : decode cX9_reasonInLayout 8 = .ok (.invokevirtual 86, 3) := by decide +kernel
theorem dX9_reasonInLayout_11 : decode cX9_reasonInLayout 11 = .ok (.ifCond .eq 5, 3) := by decide +kernel
theorem dX9_reasonInLayout_14 : decode cX9_reasonInLayout 14 = .ok (.iconst 3, 1) := by decide +kernel
theorem dX9_reasonInLayout_15 : decode cX9_reasonInLayout 15 = .ok (.ireturn, 1) := by decide +kernel
theorem dX9_reasonInLayout_16 : decode cX9_reasonInLayout 16 = .ok (.aload_n 1, 1) := by decide +kernel
theorem dX9_reasonInLayout_17 : decode cX9_reasonInLayout 17 = .ok (.getfield 90, 3) := by decide +kernel
theorem dX9_reasonInLayout_20 : decode cX9_reasonInLayout 20 = .ok (.aload_n 0, 1) := by decide +kernel
theorem dX9_reasonInLayout_21 : decode cX9_reasonInLayout 21 = .ok (.getfield 12, 3) := by decide +kernel
theorem dX9_reasonInLayout_24 : decode cX9_reasonInLayout 24 = .ok (.getfield 93, 3) := by decide +kernel
theorem dX9_reasonInLayout_27 : decode cX9_reasonInLayout 27 = .ok (.if_icmp .ge 25, 3) := by decide +kernel
theorem dX9_reasonInLayout_30 : decode cX9_reasonInLayout 30 = .ok (.aload_n 0, 1) := by decide +kernel
theorem dX9_reasonInLayout_31 : decode cX9_reasonInLayout 31 = .ok (.getfield 25, 3) := by decide +kernel
theorem dX9_reasonInLayout_34 : decode cX9_reasonInLayout 34 = .ok (.getfield 96, 3) := by decide +kernel
theorem dX9_reasonInLayout_37 : decode cX9_reasonInLayout 37 = .ok (.aload_n 1, 1) := by decide +kernel
theorem dX9_reasonInLayout_38 : decode cX9_reasonInLayout 38 = .ok (.getfield 90, 3) := by decide +kernel
theorem dX9_reasonInLayout_41 : decode cX9_reasonInLayout 41 = .ok (.aaload, 1) := by decide +kernel
theorem dX9_reasonInLayout_42 : decode cX9_reasonInLayout 42 = .ok (.aload_n 1, 1) := by decide +kernel
theorem dX9_reasonInLayout_43 : decode cX9_reasonInLayout 43 = .ok (.getfield 76, 3) := by decide +kernel
theorem dX9_reasonInLayout_46 : decode cX9_reasonInLayout 46 = .ok (.invokevirtual 100, 3) := by decide +kernel
theorem dX9_reasonInLayout_49 : decode cX9_reasonInLayout 49 = .ok (.ifCond .ne 5, 3) := by decide +kernel
theorem dX9_reasonInLayout_52 : decode cX9_reasonInLayout 52 = .ok (.iconst 4, 1) := by decide +kernel
theorem dX9_reasonInLayout_53 : decode cX9_reasonInLayout 53 = .ok (.ireturn, 1) := by decide +kernel
theorem dX9_reasonInLayout_54 : decode cX9_reasonInLayout 54 = .ok (.aload_n 0, 1) := by decide +kernel
theorem dX9_reasonInLayout_55 : decode cX9_reasonInLayout 55 = .ok (.aload_n 1, 1) := by decide +kernel
theorem dX9_reasonInLayout_56 : decode cX9_reasonInLayout 56 = .ok (.invokevirtual 106, 3) := by decide +kernel
theorem dX9_reasonInLayout_59 : decode cX9_reasonInLayout 59 = .ok (.ifCond .eq 5, 3) := by decide +kernel
theorem dX9_reasonInLayout_62 : decode cX9_reasonInLayout 62 = .ok (.iconst 5, 1) := by decide +kernel
theorem dX9_reasonInLayout_63 : decode cX9_reasonInLayout 63 = .ok (.ireturn, 1) := by decide +kernel
theorem dX9_reasonInLayout_64 : decode cX9_reasonInLayout 64 = .ok (.iconst 0, 1) := by decide +kernel
theorem dX9_reasonInLayout_65 : decode cX9_reasonInLayout 65 = .ok (.istore_n 2, 1) := by decide +kernel
theorem dX9_reasonInLayout_66 : decode cX9_reasonInLayout 66 = .ok (.iload_n 2, 1) := by decide +kernel
theorem dX9_reasonInLayout_67 : decode cX9_reasonInLayout 67 = .ok (.aload_n 0, 1) := by decide +kernel
theorem dX9_reasonInLayout_68 : decode cX9_reasonInLayout 68 = .ok (.getfield 12, 3) := by decide +kernel
theorem dX9_reasonInLayout_71 : decode cX9_reasonInLayout 71 = .ok (.getfield 73, 3) := by decide +kernel
theorem dX9_reasonInLayout_74 : decode cX9_reasonInLayout 74 = .ok (.if_icmp .ge 36, 3) := by decide +kernel
theorem dX9_reasonInLayout_77 : decode cX9_reasonInLayout 77 = .ok (.iload_n 2, 1) := by decide +kernel
theorem dX9_reasonInLayout_78 : decode cX9_reasonInLayout 78 = .ok (.aload_n 0, 1) := by decide +kernel
theorem dX9_reasonInLayout_79 : decode cX9_reasonInLayout 79 = .ok (.getfield 32, 3) := by decide +kernel
theorem dX9_reasonInLayout_82 : decode cX9_reasonInLayout 82 = .ok (.if_icmp .eq 22, 3) := by decide +kernel
theorem dX9_reasonInLayout_85 : decode cX9_reasonInLayout 85 = .ok (.aload_n 0, 1) := by decide +kernel
theorem dX9_reasonInLayout_86 : decode cX9_reasonInLayout 86 = .ok (.aload_n 0, 1) := by decide +kernel
theorem dX9_reasonInLayout_87 : decode cX9_reasonInLayout 87 = .ok (.getfield 12, 3) := by decide +kernel
theorem dX9_reasonInLayout_90 : decode cX9_reasonInLayout 90 = .ok (.getfield 36, 3) := by decide +kernel
theorem dX9_reasonInLayout_93 : decode cX9_reasonInLayout 93 = .ok (.iload_n 2, 1) := by decide +kernel
theorem dX9_reasonInLayout_94 : decode cX9_reasonInLayout 94 = .ok (.aaload, 1) := by decide +kernel
theorem dX9_reasonInLayout_95 : decode cX9_reasonInLayout 95 = .ok (.invokevirtual 106, 3) := by decide +kernel
theorem dX9_reasonInLayout_98 : decode cX9_reasonInLayout 98 = .ok (.ifCond .eq 6, 3) := by decide +kernel
theorem dX9_reasonInLayout_101 : decode cX9_reasonInLayout 101 = .ok (.bipush 6, 2) := by decide +kernel
theorem dX9_reasonInLayout_103 : decode cX9_reasonInLayout 103 = .ok (.ireturn, 1) := by decide +kernel
theorem dX9_reasonInLayout_104 : decode cX9_reasonInLayout 104 = .ok (.iinc 2 1, 3) := by decide +kernel
theorem dX9_reasonInLayout_107 : decode cX9_reasonInLayout 107 = .ok (.goto (-41), 3) := by decide +kernel
theorem dX9_reasonInLayout_110 : decode cX9_reasonInLayout 110 = .ok (.iconst 0, 1) := by decide +kernel
theorem dX9_reasonInLayout_111 : decode cX9_reasonInLayout 111 = .ok (.ireturn, 1) := by decide +kernel
theorem dX9_unrestAt_0 : decode cX9_unrestAt 0 = .ok (.aload_n 0, 1) := by decide +kernel
theorem dX9_unrestAt_1 : decode cX9_unrestAt 1 = .ok (.getfield 12, 3) := by decide +kernel
theorem dX9_unrestAt_4 : decode cX9_unrestAt 4 = .ok (.getfield 36, 3) := by decide +kernel
theorem dX9_unrestAt_7 : decode cX9_unrestAt 7 = .ok (.aload_n 0, 1) := by decide +kernel
theorem dX9_unrestAt_8 : decode cX9_unrestAt 8 = .ok (.getfield 32, 3) := by decide +kernel
theorem dX9_unrestAt_11 : decode cX9_unrestAt 11 = .ok (.aaload, 1) := by decide +kernel
theorem dX9_unrestAt_12 : decode cX9_unrestAt 12 = .ok (.iload_n 1, 1) := by decide +kernel
theorem dX9_unrestAt_13 : decode cX9_unrestAt 13 = .ok (.invokevirtual 49, 3) := by decide +kernel
theorem dX9_unrestAt_16 : decode cX9_unrestAt 16 = .ok (.aload_n 0, 1) := by decide +kernel
theorem dX9_unrestAt_17 : decode cX9_unrestAt 17 = .ok (.getfield 12, 3) := by decide +kernel
theorem dX9_unrestAt_20 : decode cX9_unrestAt 20 = .ok (.invokevirtual 134, 3) := by decide +kernel
theorem dX9_unrestAt_23 : decode cX9_unrestAt 23 = .ok (.ireturn, 1) := by decide +kernel
theorem dX10_undo_0 : decode cX10_undo 0 = .ok (.aload_n 0, 1) := by decide +kernel
theorem dX10_undo_1 : decode cX10_undo 1 = .ok (.getfield 19, 3) := by decide +kernel
theorem dX10_undo_4 : decode cX10_undo 4 = .ok (.getfield 182, 3) := by decide +kernel
theorem dX10_undo_7 : decode cX10_undo 7 = .ok (.ifCond .ne 6, 3) := by decide +kernel
theorem dX10_undo_10 : decode cX10_undo 10 = .ok (.bipush (-2), 2) := by decide +kernel
theorem dX10_undo_12 : decode cX10_undo 12 = .ok (.ireturn, 1) := by decide +kernel
theorem dX10_undo_13 : decode cX10_undo 13 = .ok (.aload_n 0, 1) := by decide +kernel
theorem dX10_undo_14 : decode cX10_undo 14 = .ok (.getfield 19, 3) := by decide +kernel
theorem dX10_undo_17 : decode cX10_undo 17 = .ok (.aload_n 0, 1) := by decide +kernel
theorem dX10_undo_18 : decode cX10_undo 18 = .ok (.getfield 12, 3) := by decide +kernel
theorem dX10_undo_21 : decode cX10_undo 21 = .ok (.invokevirtual 185, 3) := by decide +kernel
theorem dX10_undo_24 : decode cX10_undo 24 = .ok (.aload_n 0, 1) := by decide +kernel
theorem dX10_undo_25 : decode cX10_undo 25 = .ok (.iconst 1, 1) := by decide +kernel
theorem dX10_undo_26 : decode cX10_undo 26 = .ok (.putfield 49, 3) := by decide +kernel
theorem dX10_undo_29 : decode cX10_undo 29 = .ok (.aload_n 0, 1) := by decide +kernel
theorem dX10_undo_30 : decode cX10_undo 30 = .ok (.getfield 19, 3) := by decide +kernel
theorem dX10_undo_33 : decode cX10_undo 33 = .ok (.getfield 182, 3) := by decide +kernel
theorem dX10_undo_36 : decode cX10_undo 36 = .ok (.ireturn, 1) := by decide +kernel
theorem dX10_count_0 : decode cX10_count 0 = .ok (.aload_n 0, 1) := by decide +kernel
theorem dX10_count_1 : decode cX10_count 1 = .ok (.getfield 12, 3) := by decide +kernel
theorem dX10_count_4 : decode cX10_count 4 = .ok (.getfield 53, 3) := by decide +kernel
theorem dX10_count_7 : decode cX10_count 7 = .ok (.astore_n 2, 1) := by decide +kernel
theorem dX10_count_8 : decode cX10_count 8 = .ok (.iload_n 1, 1) := by decide +kernel
theorem dX10_count_9 : decode cX10_count 9 = .ok (.tableswitch 161 0 12 #[67, 72, 77, 82, 89, 96, 103, 111, 119, 132, 137, 145, 153], 67) := by decide +kernel
theorem dX10_count_76 : decode cX10_count 76 = .ok (.aload_n 2, 1) := by decide +kernel
theorem dX10_count_77 : decode cX10_count 77 = .ok (.getfield 65, 3) := by decide +kernel
theorem dX10_count_80 : decode cX10_count 80 = .ok (.ireturn, 1) := by decide +kernel
theorem dX10_count_81 : decode cX10_count 81 = .ok (.aload_n 2, 1) := by decide +kernel
theorem dX10_count_82 : decode cX10_count 82 = .ok (.getfield 115, 3) := by decide +kernel
theorem dX10_count_85 : decode cX10_count 85 = .ok (.ireturn, 1) := by decide +kernel
theorem dX10_count_86 : decode cX10_count 86 = .ok (.aload_n 2, 1) := by decide +kernel
theorem dX10_count_87 : decode cX10_count 87 = .ok (.invokevirtual 179, 3) := by decide +kernel
theorem dX10_count_90 : decode cX10_count 90 = .ok (.ireturn, 1) := by decide +kernel
theorem dX10_count_91 : decode cX10_count 91 = .ok (.aload_n 2, 1) := by decide +kernel
theorem dX10_count_92 : decode cX10_count 92 = .ok (.getfield 163, 3) := by decide +kernel
theorem dX10_count_95 : decode cX10_count 95 = .ok (.iconst 0, 1) := by decide +kernel
theorem dX10_count_96 : decode cX10_count 96 = .ok (.iaload, 1) := by decide +kernel
theorem dX10_count_97 : decode cX10_count 97 = .ok (.ireturn, 1) := by decide +kernel
theorem dX10_count_98 : decode cX10_count 98 = .ok (.aload_n 2, 1) := by decide +kernel
theorem dX10_count_99 : decode cX10_count 99 = .ok (.getfield 163, 3) := by decide +kernel
theorem dX10_count_102 : decode cX10_count 102 = .ok (.iconst 1, 1) := by decide +kernel
theorem dX10_count_103 : decode cX10_count 103 = .ok (.iaload, 1) := by decide +kernel
theorem dX10_count_104 : decode cX10_count 104 = .ok (.ireturn, 1) := by decide +kernel
theorem dX10_count_105 : decode cX10_count 105 = .ok (.aload_n 2, 1) := by decide +kernel
theorem dX10_count_106 : decode cX10_count 106 = .ok (.getfield 163, 3) := by decide +kernel
theorem dX10_count_109 : decode cX10_count 109 = .ok (.iconst 2, 1) := by decide +kernel
theorem dX10_count_110 : decode cX10_count 110 = .ok (.iaload, 1) := by decide +kernel
theorem dX10_count_111 : decode cX10_count 111 = .ok (.ireturn, 1) := by decide +kernel
theorem dX10_count_112 : decode cX10_count 112 = .ok (.aload_n 0, 1) := by decide +kernel
theorem dX10_count_113 : decode cX10_count 113 = .ok (.invokevirtual 211, 3) := by decide +kernel
theorem dX10_count_116 : decode cX10_count 116 = .ok (.invokevirtual 215, 3) := by decide +kernel
theorem dX10_count_119 : decode cX10_count 119 = .ok (.ireturn, 1) := by decide +kernel
theorem dX10_count_120 : decode cX10_count 120 = .ok (.aload_n 0, 1) := by decide +kernel
theorem dX10_count_121 : decode cX10_count 121 = .ok (.invokevirtual 211, 3) := by decide +kernel
theorem dX10_count_124 : decode cX10_count 124 = .ok (.invokevirtual 218, 3) := by decide +kernel
theorem dX10_count_127 : decode cX10_count 127 = .ok (.ireturn, 1) := by decide +kernel
theorem dX10_count_128 : decode cX10_count 128 = .ok (.aload_n 0, 1) := by decide +kernel
theorem dX10_count_129 : decode cX10_count 129 = .ok (.invokevirtual 211, 3) := by decide +kernel
theorem dX10_count_132 : decode cX10_count 132 = .ok (.iconst 0, 1) := by decide +kernel
theorem dX10_count_133 : decode cX10_count 133 = .ok (.sipush 360, 3) := by decide +kernel
theorem dX10_count_136 : decode cX10_count 136 = .ok (.iconst 1, 1) := by decide +kernel
theorem dX10_count_137 : decode cX10_count 137 = .ok (.invokevirtual 221, 3) := by decide +kernel
theorem dX10_count_140 : decode cX10_count 140 = .ok (.ireturn, 1) := by decide +kernel
theorem dX10_count_141 : decode cX10_count 141 = .ok (.aload_n 2, 1) := by decide +kernel
theorem dX10_count_142 : decode cX10_count 142 = .ok (.invokevirtual 151, 3) := by decide +kernel
theorem dX10_count_145 : decode cX10_count 145 = .ok (.ireturn, 1) := by decide +kernel
theorem dX10_count_146 : decode cX10_count 146 = .ok (.aload_n 0, 1) := by decide +kernel
theorem dX10_count_147 : decode cX10_count 147 = .ok (.getfield 12, 3) := by decide +kernel
theorem dX10_count_150 : decode cX10_count 150 = .ok (.invokevirtual 224, 3) := by decide +kernel
theorem dX10_count_153 : decode cX10_count 153 = .ok (.ireturn, 1) := by decide +kernel
theorem dX10_count_154 : decode cX10_count 154 = .ok (.aload_n 0, 1) := by decide +kernel
theorem dX10_count_155 : decode cX10_count 155 = .ok (.getfield 19, 3) := by decide +kernel
theorem dX10_count_158 : decode cX10_count 158 = .ok (.getfield 182, 3) := by decide +kernel
theorem dX10_count_161 : decode cX10_count 161 = .ok (.ireturn, 1) := by decide +kernel
theorem dX10_count_162 : decode cX10_count 162 = .ok (.aload_n 0, 1) := by decide +kernel
theorem dX10_count_163 : decode cX10_count 163 = .ok (.getfield 34, 3) := by decide +kernel
theorem dX10_count_166 : decode cX10_count 166 = .ok (.getfield 189, 3) := by decide +kernel
theorem dX10_count_169 : decode cX10_count 169 = .ok (.ireturn, 1) := by decide +kernel
theorem dX10_count_170 : decode cX10_count 170 = .ok (.iconst (-1), 1) := by decide +kernel
theorem dX10_count_171 : decode cX10_count 171 = .ok (.ireturn, 1) := by decide +kernel
theorem dX10_article_0 : decode cX10_article 0 = .ok (.aload_n 0, 1) := by decide +kernel
theorem dX10_article_1 : decode cX10_article 1 = .ok (.getfield 12, 3) := by decide +kernel
theorem dX10_article_4 : decode cX10_article 4 = .ok (.getfield 53, 3) := by decide +kernel
theorem dX10_article_7 : decode cX10_article 7 = .ok (.iload_n 1, 1) := by decide +kernel
theorem dX10_article_8 : decode cX10_article 8 = .ok (.invokevirtual 78, 3) := by decide +kernel
theorem dX10_article_11 : decode cX10_article 11 = .ok (.ifCond .ne 5, 3) := by decide +kernel
theorem dX10_article_14 : decode cX10_article 14 = .ok (.iconst (-1), 1) := by decide +kernel
theorem dX10_article_15 : decode cX10_article 15 = .ok (.ireturn, 1) := by decide +kernel
theorem dX10_article_16 : decode cX10_article 16 = .ok (.aload_n 0, 1) := by decide +kernel
theorem dX10_article_17 : decode cX10_article 17 = .ok (.getfield 12, 3) := by decide +kernel
theorem dX10_article_20 : decode cX10_article 20 = .ok (.getfield 53, 3) := by decide +kernel
theorem dX10_article_23 : decode cX10_article 23 = .ok (.getfield 85, 3) := by decide +kernel
theorem dX10_article_26 : decode cX10_article 26 = .ok (.iload_n 1, 1) := by decide +kernel
theorem dX10_article_27 : decode cX10_article 27 = .ok (.aaload, 1) := by decide +kernel
theorem dX10_article_28 : decode cX10_article 28 = .ok (.astore_n 3, 1) := by decide +kernel
theorem dX10_article_29 : decode cX10_article 29 = .ok (.aload_n 0, 1) := by decide +kernel
theorem dX10_article_30 : decode cX10_article 30 = .ok (.invokevirtual 211, 3) := by decide +kernel
theorem dX10_article_33 : decode cX10_article 33 = .ok (.getfield 227, 3) := by decide +kernel
theorem dX10_article_36 : decode cX10_article 36 = .ok (.iload_n 1, 1) := by decide +kernel
theorem dX10_article_37 : decode cX10_article 37 = .ok (.aaload, 1) := by decide +kernel
theorem dX10_article_38 : decode cX10_article 38 = .ok (.astore 4, 2) := by decide +kernel
theorem dX10_article_40 : decode cX10_article 40 = .ok (.iload_n 2, 1) := by decide +kernel
theorem dX10_article_41 : decode cX10_article 41 = .ok (.tableswitch 90 0 6 #[43, 48, 53, 58, 64, 70, 77], 43) := by decide +kernel
theorem dX10_article_84 : decode cX10_article 84 = .ok (.aload_n 3, 1) := by decide +kernel
theorem dX10_article_85 : decode cX10_article 85 = .ok (.getfield 89, 3) := by decide +kernel
theorem dX10_article_88 : decode cX10_article 88 = .ok (.ireturn, 1) := by decide +kernel
theorem dX10_article_89 : decode cX10_article 89 = .ok (.aload_n 3, 1) := by decide +kernel
theorem dX10_article_90 : decode cX10_article 90 = .ok (.getfield 98, 3) := by decide +kernel
theorem dX10_article_93 : decode cX10_article 93 = .ok (.ireturn, 1) := by decide +kernel
theorem dX10_article_94 : decode cX10_article 94 = .ok (.aload_n 3, 1) := by decide +kernel
theorem dX10_article_95 : decode cX10_article 95 = .ok (.getfield 105, 3) := by decide +kernel
theorem dX10_article_98 : decode cX10_article 98 = .ok (.ireturn, 1) := by decide +kernel
theorem dX10_article_99 : decode cX10_article 99 = .ok (.aload 4, 2) := by decide +kernel
theorem dX10_article_101 : decode cX10_article 101 = .ok (.getfield 231, 3) := by decide +kernel
theorem dX10_article_104 : decode cX10_article 104 = .ok (.ireturn, 1) := by decide +kernel
theorem dX10_article_105 : decode cX10_article 105 = .ok (.aload 4, 2) := by decide +kernel
theorem dX10_article_107 : decode cX10_article 107 = .ok (.getfield 236, 3) := by decide +kernel
theorem dX10_article_110 : decode cX10_article 110 = .ok (.ireturn, 1) := by decide +kernel
theorem dX10_article_111 : decode cX10_article 111 = .ok (.aload 4, 2) := by decide +kernel
theorem dX10_article_113 : decode cX10_article 113 = .ok (.iconst 0, 1) := by decide +kernel
theorem dX10_article_114 : decode cX10_article 114 = .ok (.invokevirtual 239, 3) := by decide +kernel
theorem dX10_article_117 : decode cX10_article 117 = .ok (.ireturn, 1) := by decide +kernel
theorem dX10_article_118 : decode cX10_article 118 = .ok (.aload 4, 2) := by decide +kernel
theorem dX10_article_120 : decode cX10_article 120 = .ok (.aload 4, 2) := by decide +kernel
theorem dX10_article_122 : decode cX10_article 122 = .ok (.getfield 242, 3) := by decide +kernel
theorem dX10_article_125 : decode cX10_article 125 = .ok (.iconst 1, 1) := by decide +kernel
theorem dX10_article_126 : decode cX10_article 126 = .ok (.isub, 1) := by decide +kernel
theorem dX10_article_127 : decode cX10_article 127 = .ok (.invokevirtual 239, 3) := by decide +kernel
theorem dX10_article_130 : decode cX10_article 130 = .ok (.ireturn, 1) := by decide +kernel
theorem dX10_article_131 : decode cX10_article 131 = .ok (.iconst (-1), 1) := by decide +kernel
theorem dX10_article_132 : decode cX10_article 132 = .ok (.ireturn, 1) := by decide +kernel
theorem dX10_lineAt_0 : decode cX10_lineAt 0 = .ok (.aload_n 0, 1) := by decide +kernel
theorem dX10_lineAt_1 : decode cX10_lineAt 1 = .ok (.getfield 12, 3) := by decide +kernel
theorem dX10_lineAt_4 : decode cX10_lineAt 4 = .ok (.getfield 53, 3) := by decide +kernel
theorem dX10_lineAt_7 : decode cX10_lineAt 7 = .ok (.iload_n 1, 1) := by decide +kernel
theorem dX10_lineAt_8 : decode cX10_lineAt 8 = .ok (.iload_n 2, 1) := by decide +kernel
theorem dX10_lineAt_9 : decode cX10_lineAt 9 = .ok (.invokevirtual 101, 3) := by decide +kernel
theorem dX10_lineAt_12 : decode cX10_lineAt 12 = .ok (.ifCond .ne 5, 3) := by decide +kernel
theorem dX10_lineAt_15 : decode cX10_lineAt 15 = .ok (.iconst (-1), 1) := by decide +kernel
theorem dX10_lineAt_16 : decode cX10_lineAt 16 = .ok (.ireturn, 1) := by decide +kernel
theorem dX10_lineAt_17 : decode cX10_lineAt 17 = .ok (.aload_n 0, 1) := by decide +kernel
theorem dX10_lineAt_18 : decode cX10_lineAt 18 = .ok (.invokevirtual 211, 3) := by decide +kernel
theorem dX10_lineAt_21 : decode cX10_lineAt 21 = .ok (.getfield 227, 3) := by decide +kernel
theorem dX10_lineAt_24 : decode cX10_lineAt 24 = .ok (.iload_n 1, 1) := by decide +kernel
theorem dX10_lineAt_25 : decode cX10_lineAt 25 = .ok (.aaload, 1) := by decide +kernel
theorem dX10_lineAt_26 : decode cX10_lineAt 26 = .ok (.iload_n 2, 1) := by decide +kernel
theorem dX10_lineAt_27 : decode cX10_lineAt 27 = .ok (.invokevirtual 239, 3) := by decide +kernel
theorem dX10_lineAt_30 : decode cX10_lineAt 30 = .ok (.ireturn, 1) := by decide +kernel
theorem dX10_sentence_0 : decode cX10_sentence 0 = .ok (.aload_n 0, 1) := by decide +kernel
theorem dX10_sentence_1 : decode cX10_sentence 1 = .ok (.getfield 12, 3) := by decide +kernel
theorem dX10_sentence_4 : decode cX10_sentence 4 = .ok (.getfield 53, 3) := by decide +kernel
theorem dX10_sentence_7 : decode cX10_sentence 7 = .ok (.iload_n 1, 1) := by decide +kernel
theorem dX10_sentence_8 : decode cX10_sentence 8 = .ok (.iload_n 2, 1) := by decide +kernel
theorem dX10_sentence_9 : decode cX10_sentence 9 = .ok (.invokevirtual 112, 3) := by decide +kernel
theorem dX10_sentence_12 : decode cX10_sentence 12 = .ok (.ifCond .eq 12, 3) := by decide +kernel
theorem dX10_sentence_15 : decode cX10_sentence 15 = .ok (.iload_n 3, 1) := by decide +kernel
theorem dX10_sentence_16 : decode cX10_sentence 16 = .ok (.iconst 0, 1) := by decide +kernel
theorem dX10_sentence_17 : decode cX10_sentence 17 = .ok (.iconst 1, 1) := by decide +kernel
theorem dX10_sentence_18 : decode cX10_sentence 18 = .ok (.invokestatic 61, 3) := by decide +kernel
theorem dX10_sentence_21 : decode cX10_sentence 21 = .ok (.ifCond .ne 5, 3) := by decide +kernel
theorem dX10_sentence_24 : decode cX10_sentence 24 = .ok (.iconst (-1), 1) := by decide +kernel
theorem dX10_sentence_25 : decode cX10_sentence 25 = .ok (.ireturn, 1) := by decide +kernel
theorem dX10_sentence_26 : decode cX10_sentence 26 = .ok (.aload_n 0, 1) := by decide +kernel
theorem dX10_sentence_27 : decode cX10_sentence 27 = .ok (.getfield 12, 3) := by decide +kernel
theorem dX10_sentence_30 : decode cX10_sentence 30 = .ok (.getfield 53, 3) := by decide +kernel
theorem dX10_sentence_33 : decode cX10_sentence 33 = .ok (.getfield 85, 3) := by decide +kernel
theorem dX10_sentence_36 : decode cX10_sentence 36 = .ok (.iload_n 1, 1) := by decide +kernel
theorem dX10_sentence_37 : decode cX10_sentence 37 = .ok (.aaload, 1) := by decide +kernel
theorem dX10_sentence_38 : decode cX10_sentence 38 = .ok (.getfield 245, 3) := by decide +kernel
theorem dX10_sentence_41 : decode cX10_sentence 41 = .ok (.iload_n 2, 1) := by decide +kernel
theorem dX10_sentence_42 : decode cX10_sentence 42 = .ok (.iaload, 1) := by decide +kernel
theorem dX10_sentence_43 : decode cX10_sentence 43 = .ok (.istore 4, 2) := by decide +kernel
theorem dX10_sentence_45 : decode cX10_sentence 45 = .ok (.iload_n 3, 1) := by decide +kernel
theorem dX10_sentence_46 : decode cX10_sentence 46 = .ok (.ifCond .ne 8, 3) := by decide +kernel
theorem dX10_sentence_49 : decode cX10_sentence 49 = .ok (.iload 4, 2) := by decide +kernel
theorem dX10_sentence_51 : decode cX10_sentence 51 = .ok (.goto 17, 3) := by decide +kernel
theorem dX10_sentence_54 : decode cX10_sentence 54 = .ok (.aload_n 0, 1) := by decide +kernel
theorem dX10_sentence_55 : decode cX10_sentence 55 = .ok (.invokevirtual 211, 3) := by decide +kernel
theorem dX10_sentence_58 : decode cX10_sentence 58 = .ok (.getfield 227, 3) := by decide +kernel
theorem dX10_sentence_61 : decode cX10_sentence 61 = .ok (.iload_n 1, 1) := by decide +kernel
theorem dX10_sentence_62 : decode cX10_sentence 62 = .ok (.aaload, 1) := by decide +kernel
theorem dX10_sentence_63 : decode cX10_sentence 63 = .ok (.iload 4, 2) := by decide +kernel
theorem dX10_sentence_65 : decode cX10_sentence 65 = .ok (.invokevirtual 239, 3) := by decide +kernel
theorem dX10_sentence_68 : decode cX10_sentence 68 = .ok (.ireturn, 1) := by decide +kernel
theorem dX10_quote_0 : decode cX10_quote 0 = .ok (.aload_n 0, 1) := by decide +kernel
theorem dX10_quote_1 : decode cX10_quote 1 = .ok (.getfield 12, 3) := by decide +kernel
theorem dX10_quote_4 : decode cX10_quote 4 = .ok (.getfield 53, 3) := by decide +kernel
theorem dX10_quote_7 : decode cX10_quote 7 = .ok (.iload_n 1, 1) := by decide +kernel
theorem dX10_quote_8 : decode cX10_quote 8 = .ok (.invokevirtual 122, 3) := by decide +kernel
theorem dX10_quote_11 : decode cX10_quote 11 = .ok (.ifCond .ne 5, 3) := by decide +kernel
theorem dX10_quote_14 : decode cX10_quote 14 = .ok (.iconst (-1), 1) := by decide +kernel
theorem dX10_quote_15 : decode cX10_quote 15 = .ok (.ireturn, 1) := by decide +kernel
theorem dX10_quote_16 : decode cX10_quote 16 = .ok (.aload_n 0, 1) := by decide +kernel
theorem dX10_quote_17 : decode cX10_quote 17 = .ok (.getfield 12, 3) := by decide +kernel
theorem dX10_quote_20 : decode cX10_quote 20 = .ok (.getfield 53, 3) := by decide +kernel
theorem dX10_quote_23 : decode cX10_quote 23 = .ok (.getfield 142, 3) := by decide +kernel
theorem dX10_quote_26 : decode cX10_quote 26 = .ok (.iload_n 1, 1) := by decide +kernel
theorem dX10_quote_27 : decode cX10_quote 27 = .ok (.aaload, 1) := by decide +kernel
theorem dX10_quote_28 : decode cX10_quote 28 = .ok (.astore_n 3, 1) := by decide +kernel
theorem dX10_quote_29 : decode cX10_quote 29 = .ok (.iload_n 2, 1) := by decide +kernel
theorem dX10_quote_30 : decode cX10_quote 30 = .ok (.tableswitch 133 0 7 #[46, 51, 56, 61, 66, 83, 100, 117], 46) := by decide +kernel
theorem dX10_quote_76 : decode cX10_quote 76 = .ok (.aload_n 3, 1) := by decide +kernel
theorem dX10_quote_77 : decode cX10_quote 77 = .ok (.getfield 248, 3) := by decide +kernel
theorem dX10_quote_80 : decode cX10_quote 80 = .ok (.ireturn, 1) := by decide +kernel
theorem dX10_quote_81 : decode cX10_quote 81 = .ok (.aload_n 3, 1) := by decide +kernel
theorem dX10_quote_82 : decode cX10_quote 82 = .ok (.getfield 251, 3) := by decide +kernel
theorem dX10_quote_85 : decode cX10_quote 85 = .ok (.ireturn, 1) := by decide +kernel
theorem dX10_quote_86 : decode cX10_quote 86 = .ok (.aload_n 3, 1) := by decide +kernel
theorem dX10_quote_87 : decode cX10_quote 87 = .ok (.getfield 254, 3) := by decide +kernel
theorem dX10_quote_90 : decode cX10_quote 90 = .ok (.ireturn, 1) := by decide +kernel
theorem dX10_quote_91 : decode cX10_quote 91 = .ok (.aload_n 3, 1) := by decide +kernel
theorem dX10_quote_92 : decode cX10_quote 92 = .ok (.getfield 257, 3) := by decide +kernel
theorem dX10_quote_95 : decode cX10_quote 95 = .ok (.ireturn, 1) := by decide +kernel
theorem dX10_quote_96 : decode cX10_quote 96 = .ok (.aload_n 3, 1) := by decide +kernel
theorem dX10_quote_97 : decode cX10_quote 97 = .ok (.getfield 154, 3) := by decide +kernel
theorem dX10_quote_100 : decode cX10_quote 100 = .ok (.ifCond .eq 10, 3) := by decide +kernel
theorem dX10_quote_103 : decode cX10_quote 103 = .ok (.aload_n 3, 1) := by decide +kernel
theorem dX10_quote_104 : decode cX10_quote 104 = .ok (.getfield 260, 3) := by decide +kernel
theorem dX10_quote_107 : decode cX10_quote 107 = .ok (.goto 5, 3) := by decide +kernel
theorem dX10_quote_110 : decode cX10_quote 110 = .ok (.bipush (-99), 2) := by decide +kernel
theorem dX10_quote_112 : decode cX10_quote 112 = .ok (.ireturn, 1) := by decide +kernel
theorem dX10_quote_113 : decode cX10_quote 113 = .ok (.aload_n 3, 1) := by decide +kernel
theorem dX10_quote_114 : decode cX10_quote 114 = .ok (.getfield 154, 3) := by decide +kernel
theorem dX10_quote_117 : decode cX10_quote 117 = .ok (.ifCond .eq 10, 3) := by decide +kernel
theorem dX10_quote_120 : decode cX10_quote 120 = .ok (.aload_n 3, 1) := by decide +kernel
theorem dX10_quote_121 : decode cX10_quote 121 = .ok (.getfield 263, 3) := by decide +kernel
theorem dX10_quote_124 : decode cX10_quote 124 = .ok (.goto 5, 3) := by decide +kernel
theorem dX10_quote_127 : decode cX10_quote 127 = .ok (.bipush (-99), 2) := by decide +kernel
theorem dX10_quote_129 : decode cX10_quote 129 = .ok (.ireturn, 1) := by decide +kernel
theorem dX10_quote_130 : decode cX10_quote 130 = .ok (.aload_n 3, 1) := by decide +kernel
theorem dX10_quote_131 : decode cX10_quote 131 = .ok (.getfield 154, 3) := by decide +kernel
theorem dX10_quote_134 : decode cX10_quote 134 = .ok (.ifCond .eq 10, 3) := by decide +kernel
theorem dX10_quote_137 : decode cX10_quote 137 = .ok (.aload_n 3, 1) := by decide +kernel
theorem dX10_quote_138 : decode cX10_quote 138 = .ok (.getfield 266, 3) := by decide +kernel
theorem dX10_quote_141 : decode cX10_quote 141 = .ok (.goto 5, 3) := by decide +kernel
theorem dX10_quote_144 : decode cX10_quote 144 = .ok (.bipush (-99), 2) := by decide +kernel
theorem dX10_quote_146 : decode cX10_quote 146 = .ok (.ireturn, 1) := by decide +kernel
theorem dX10_quote_147 : decode cX10_quote 147 = .ok (.aload_n 0, 1) := by decide +kernel
theorem dX10_quote_148 : decode cX10_quote 148 = .ok (.invokevirtual 211, 3) := by decide +kernel
theorem dX10_quote_151 : decode cX10_quote 151 = .ok (.aload_n 0, 1) := by decide +kernel
theorem dX10_quote_152 : decode cX10_quote 152 = .ok (.getfield 12, 3) := by decide +kernel
theorem dX10_quote_155 : decode cX10_quote 155 = .ok (.getfield 53, 3) := by decide +kernel
theorem dX10_quote_158 : decode cX10_quote 158 = .ok (.aload_n 3, 1) := by decide +kernel
theorem dX10_quote_159 : decode cX10_quote 159 = .ok (.invokevirtual 269, 3) := by decide +kernel
theorem dX10_quote_162 : decode cX10_quote 162 = .ok (.ireturn, 1) := by decide +kernel
theorem dX10_quote_163 : decode cX10_quote 163 = .ok (.iconst (-1), 1) := by decide +kernel
theorem dX10_quote_164 : decode cX10_quote 164 = .ok (.ireturn, 1) := by decide +kernel
theorem dX10_module_0 : decode cX10_module 0 = .ok (.iload_n 1, 1) := by decide +kernel
theorem dX10_module_1 : decode cX10_module 1 = .ok (.invokestatic 57, 3) := by decide +kernel
theorem dX10_module_4 : decode cX10_module 4 = .ok (.ifCond .ne 5, 3) := by decide +kernel
theorem dX10_module_7 : decode cX10_module 7 = .ok (.iconst (-1), 1) := by decide +kernel
theorem dX10_module_8 : decode cX10_module 8 = .ok (.ireturn, 1) := by decide +kernel
theorem dX10_module_9 : decode cX10_module 9 = .ok (.aload_n 0, 1) := by decide +kernel
theorem dX10_module_10 : decode cX10_module 10 = .ok (.invokevirtual 211, 3) := by decide +kernel
theorem dX10_module_13 : decode cX10_module 13 = .ok (.getfield 273, 3) := by decide +kernel
theorem dX10_module_16 : decode cX10_module 16 = .ok (.iload_n 1, 1) := by decide +kernel
theorem dX10_module_17 : decode cX10_module 17 = .ok (.iaload, 1) := by decide +kernel
theorem dX10_module_18 : decode cX10_module 18 = .ok (.ireturn, 1) := by decide +kernel
theorem dX10_page_0 : decode cX10_page 0 = .ok (.iload_n 1, 1) := by decide +kernel
theorem dX10_page_1 : decode cX10_page 1 = .ok (.iconst 0, 1) := by decide +kernel
theorem dX10_page_2 : decode cX10_page 2 = .ok (.iconst 2, 1) := by decide +kernel
theorem dX10_page_3 : decode cX10_page 3 = .ok (.invokestatic 61, 3) := by decide +kernel
theorem dX10_page_6 : decode cX10_page 6 = .ok (.ifCond .ne 5, 3) := by decide +kernel
theorem dX10_page_9 : decode cX10_page 9 = .ok (.iconst (-1), 1) := by decide +kernel
theorem dX10_page_10 : decode cX10_page 10 = .ok (.ireturn, 1) := by decide +kernel
theorem dX10_page_11 : decode cX10_page 11 = .ok (.iload_n 1, 1) := by decide +kernel
theorem dX10_page_12 : decode cX10_page 12 = .ok (.bipush 120, 2) := by decide +kernel
theorem dX10_page_14 : decode cX10_page 14 = .ok (.imul, 1) := by decide +kernel
theorem dX10_page_15 : decode cX10_page 15 = .ok (.istore_n 3, 1) := by decide +kernel
theorem dX10_page_16 : decode cX10_page 16 = .ok (.iload_n 3, 1) := by decide +kernel
theorem dX10_page_17 : decode cX10_page 17 = .ok (.bipush 120, 2) := by decide +kernel
theorem dX10_page_19 : decode cX10_page 19 = .ok (.iadd, 1) := by decide +kernel
theorem dX10_page_20 : decode cX10_page 20 = .ok (.istore 4, 2) := by decide +kernel
theorem dX10_page_22 : decode cX10_page 22 = .ok (.aload_n 0, 1) := by decide +kernel
theorem dX10_page_23 : decode cX10_page 23 = .ok (.invokevirtual 211, 3) := by decide +kernel
theorem dX10_page_26 : decode cX10_page 26 = .ok (.iload_n 3, 1) := by decide +kernel
theorem dX10_page_27 : decode cX10_page 27 = .ok (.iload 4, 2) := by decide +kernel
theorem dX10_page_29 : decode cX10_page 29 = .ok (.bipush 21, 2) := by decide +kernel
theorem dX10_page_31 : decode cX10_page 31 = .ok (.invokevirtual 221, 3) := by decide +kernel
theorem dX10_page_34 : decode cX10_page 34 = .ok (.istore 5, 2) := by decide +kernel
theorem dX10_page_36 : decode cX10_page 36 = .ok (.iload_n 2, 1) := by decide +kernel
theorem dX10_page_37 : decode cX10_page 37 = .ok (.tableswitch 57 0 2 #[27, 39, 42], 27) := by decide +kernel
theorem dX10_page_64 : decode cX10_page 64 = .ok (.aload_n 0, 1) := by decide +kernel
theorem dX10_page_65 : decode cX10_page 65 = .ok (.getfield 12, 3) := by decide +kernel
theorem dX10_page_68 : decode cX10_page 68 = .ok (.getfield 53, 3) := by decide +kernel
theorem dX10_page_71 : decode cX10_page 71 = .ok (.iload_n 1, 1) := by decide +kernel
theorem dX10_page_72 : decode cX10_page 72 = .ok (.invokevirtual 276, 3) := by decide +kernel
theorem dX10_page_75 : decode cX10_page 75 = .ok (.ireturn, 1) := by decide +kernel
theorem dX10_page_76 : decode cX10_page 76 = .ok (.iload 5, 2) := by decide +kernel
theorem dX10_page_78 : decode cX10_page 78 = .ok (.ireturn, 1) := by decide +kernel
theorem dX10_page_79 : decode cX10_page 79 = .ok (.aload_n 0, 1) := by decide +kernel
theorem dX10_page_80 : decode cX10_page 80 = .ok (.invokevirtual 211, 3) := by decide +kernel
theorem dX10_page_83 : decode cX10_page 83 = .ok (.iload_n 3, 1) := by decide +kernel
theorem dX10_page_84 : decode cX10_page 84 = .ok (.iload 4, 2) := by decide +kernel
theorem dX10_page_86 : decode cX10_page 86 = .ok (.iconst 1, 1) := by decide +kernel
theorem dX10_page_87 : decode cX10_page 87 = .ok (.invokevirtual 221, 3) := by decide +kernel
theorem dX10_page_90 : decode cX10_page 90 = .ok (.iload 5, 2) := by decide +kernel
theorem dX10_page_92 : decode cX10_page 92 = .ok (.isub, 1) := by decide +kernel
theorem dX10_page_93 : decode cX10_page 93 = .ok (.ireturn, 1) := by decide +kernel
theorem dX10_page_94 : decode cX10_page 94 = .ok (.iconst (-1), 1) := by decide +kernel
theorem dX10_page_95 : decode cX10_page 95 = .ok (.ireturn, 1) := by decide +kernel
theorem dX10_roomFor_0 : decode cX10_roomFor 0 = .ok (.aload_n 0, 1) := by decide +kernel
theorem dX10_roomFor_1 : decode cX10_roomFor 1 = .ok (.getfield 12, 3) := by decide +kernel
theorem dX10_roomFor_4 : decode cX10_roomFor 4 = .ok (.getfield 53, 3) := by decide +kernel
theorem dX10_roomFor_7 : decode cX10_roomFor 7 = .ok (.iload_n 1, 1) := by decide +kernel
theorem dX10_roomFor_8 : decode cX10_roomFor 8 = .ok (.invokevirtual 78, 3) := by decide +kernel
theorem dX10_roomFor_11 : decode cX10_roomFor 11 = .ok (.ifCond .ne 5, 3) := by decide +kernel
theorem dX10_roomFor_14 : decode cX10_roomFor 14 = .ok (.iconst (-1), 1) := by decide +kernel
theorem dX10_roomFor_15 : decode cX10_roomFor 15 = .ok (.ireturn, 1) := by decide +kernel
theorem dX10_roomFor_16 : decode cX10_roomFor 16 = .ok (.aload_n 0, 1) := by decide +kernel
theorem dX10_roomFor_17 : decode cX10_roomFor 17 = .ok (.getfield 38, 3) := by decide +kernel
theorem dX10_roomFor_20 : decode cX10_roomFor 20 = .ok (.aload_n 0, 1) := by decide +kernel
theorem dX10_roomFor_21 : decode cX10_roomFor 21 = .ok (.getfield 12, 3) := by decide +kernel
theorem dX10_roomFor_24 : decode cX10_roomFor 24 = .ok (.getfield 53, 3) := by decide +kernel
theorem dX10_roomFor_27 : decode cX10_roomFor 27 = .ok (.iload_n 1, 1) := by decide +kernel
theorem dX10_roomFor_28 : decode cX10_roomFor 28 = .ok (.invokevirtual 282, 3) := by decide +kernel
theorem dX10_roomFor_31 : decode cX10_roomFor 31 = .ok (.ireturn, 1) := by decide +kernel
theorem dX10_beginAction_0 : decode cX10_beginAction 0 = .ok (.aload_n 0, 1) := by decide +kernel
theorem dX10_beginAction_1 : decode cX10_beginAction 1 = .ok (.getfield 19, 3) := by decide +kernel
theorem dX10_beginAction_4 : decode cX10_beginAction 4 = .ok (.aload_n 0, 1) := by decide +kernel
theorem dX10_beginAction_5 : decode cX10_beginAction 5 = .ok (.getfield 12, 3) := by decide +kernel
theorem dX10_beginAction_8 : decode cX10_beginAction 8 = .ok (.invokevirtual 286, 3) := by decide +kernel
theorem dX10_beginAction_11 : decode cX10_beginAction 11 = .ok (.aload_n 0, 1) := by decide +kernel
theorem dX10_beginAction_12 : decode cX10_beginAction 12 = .ok (.iconst 1, 1) := by decide +kernel
theorem dX10_beginAction_13 : decode cX10_beginAction 13 = .ok (.putfield 49, 3) := by decide +kernel
theorem dX10_beginAction_16 : decode cX10_beginAction 16 = .ok (.return_, 1) := by decide +kernel
theorem dX6_readItem_0 : decode cX6_readItem 0 = .ok (.aload_n 0, 1) := by decide +kernel
theorem dX6_readItem_1 : decode cX6_readItem 1 = .ok (.invokevirtual 43, 3) := by decide +kernel
theorem dX6_readItem_4 : decode cX6_readItem 4 = .ok (.istore_n 1, 1) := by decide +kernel
theorem dX6_readItem_5 : decode cX6_readItem 5 = .ok (.iload_n 1, 1) := by decide +kernel
theorem dX6_readItem_6 : decode cX6_readItem 6 = .ok (.bipush 97, 2) := by decide +kernel
theorem dX6_readItem_8 : decode cX6_readItem 8 = .ok (.if_icmp .ne 32, 3) := by decide +kernel
theorem dX6_readItem_11 : decode cX6_readItem 11 = .ok (.aload_n 0, 1) := by decide +kernel
theorem dX6_readItem_12 : decode cX6_readItem 12 = .ok (.getfield 21, 3) := by decide +kernel
theorem dX6_readItem_15 : decode cX6_readItem 15 = .ok (.getfield 50, 3) := by decide +kernel
theorem dX6_readItem_18 : decode cX6_readItem 18 = .ok (.bipush 6, 2) := by decide +kernel
theorem dX6_readItem_20 : decode cX6_readItem 20 = .ok (.if_icmp .ge 20, 3) := by decide +kernel
theorem dX6_readItem_23 : decode cX6_readItem 23 = .ok (.aload_n 0, 1) := by decide +kernel
theorem dX6_readItem_24 : decode cX6_readItem 24 = .ok (.dup, 1) := by decide +kernel
theorem dX6_readItem_25 : decode cX6_readItem 25 = .ok (.getfield 36, 3) := by decide +kernel
theorem dX6_readItem_28 : decode cX6_readItem 28 = .ok (.iconst 1, 1) := by decide +kernel
theorem dX6_readItem_29 : decode cX6_readItem 29 = .ok (.iadd, 1) := by decide +kernel
theorem dX6_readItem_30 : decode cX6_readItem 30 = .ok (.putfield 36, 3) := by decide +kernel
theorem dX6_readItem_33 : decode cX6_readItem 33 = .ok (.aload_n 0, 1) := by decide +kernel
theorem dX6_readItem_34 : decode cX6_readItem 34 = .ok (.invokevirtual 53, 3) := by decide +kernel
theorem dX6_readItem_37 : decode cX6_readItem 37 = .ok (.goto 46, 3) := by decide +kernel
theorem dX6_readItem_40 : decode cX6_readItem 40 = .ok (.iload_n 1, 1) := by decide +kernel
theorem dX6_readItem_41 : decode cX6_readItem 41 = .ok (.bipush 113, 2) := by decide +kernel
theorem dX6_readItem_43 : decode cX6_readItem 43 = .ok (.if_icmp .ne 32, 3) := by decide +kernel
theorem dX6_readItem_46 : decode cX6_readItem 46 = .ok (.aload_n 0, 1) := by decide +kernel
theorem dX6_readItem_47 : decode cX6_readItem 47 = .ok (.getfield 21, 3) := by decide +kernel
theorem dX6_readItem_50 : decode cX6_readItem 50 = .ok (.getfield 56, 3) := by decide +kernel
theorem dX6_readItem_53 : decode cX6_readItem 53 = .ok (.bipush 8, 2) := by decide +kernel
theorem dX6_readItem_55 : decode cX6_readItem 55 = .ok (.if_icmp .ge 20, 3) := by decide +kernel
theorem dX6_readItem_58 : decode cX6_readItem 58 = .ok (.aload_n 0, 1) := by decide +kernel
theorem dX6_readItem_59 : decode cX6_readItem 59 = .ok (.dup, 1) := by decide +kernel
theorem dX6_readItem_60 : decode cX6_readItem 60 = .ok (.getfield 36, 3) := by decide +kernel
theorem dX6_readItem_63 : decode cX6_readItem 63 = .ok (.iconst 1, 1) := by decide +kernel
theorem dX6_readItem_64 : decode cX6_readItem 64 = .ok (.iadd, 1) := by decide +kernel
theorem dX6_readItem_65 : decode cX6_readItem 65 = .ok (.putfield 36, 3) := by decide +kernel
theorem dX6_readItem_68 : decode cX6_readItem 68 = .ok (.aload_n 0, 1) := by decide +kernel
theorem dX6_readItem_69 : decode cX6_readItem 69 = .ok (.invokevirtual 59, 3) := by decide +kernel
theorem dX6_readItem_72 : decode cX6_readItem 72 = .ok (.goto 11, 3) := by decide +kernel
theorem dX6_readItem_75 : decode cX6_readItem 75 = .ok (.aload_n 0, 1) := by decide +kernel
theorem dX6_readItem_76 : decode cX6_readItem 76 = .ok (.aload_n 0, 1) := by decide +kernel
theorem dX6_readItem_77 : decode cX6_readItem 77 = .ok (.getfield 36, 3) := by decide +kernel
theorem dX6_readItem_80 : decode cX6_readItem 80 = .ok (.invokevirtual 62, 3) := by decide +kernel
theorem dX6_readItem_83 : decode cX6_readItem 83 = .ok (.aload_n 0, 1) := by decide +kernel
theorem dX6_readItem_84 : decode cX6_readItem 84 = .ok (.bipush 59, 2) := by decide +kernel
theorem dX6_readItem_86 : decode cX6_readItem 86 = .ok (.invokevirtual 66, 3) := by decide +kernel
theorem dX6_readItem_89 : decode cX6_readItem 89 = .ok (.return_, 1) := by decide +kernel
theorem dX9_reasonAt_0 : decode cX9_reasonAt 0 = .ok (.aload_n 0, 1) := by decide +kernel
theorem dX9_reasonAt_1 : decode cX9_reasonAt 1 = .ok (.getfield 12, 3) := by decide +kernel
theorem dX9_reasonAt_4 : decode cX9_reasonAt 4 = .ok (.getfield 36, 3) := by decide +kernel
theorem dX9_reasonAt_7 : decode cX9_reasonAt 7 = .ok (.aload_n 0, 1) := by decide +kernel
theorem dX9_reasonAt_8 : decode cX9_reasonAt 8 = .ok (.getfield 32, 3) := by decide +kernel
theorem dX9_reasonAt_11 : decode cX9_reasonAt 11 = .ok (.aaload, 1) := by decide +kernel
theorem dX9_reasonAt_12 : decode cX9_reasonAt 12 = .ok (.astore_n 2, 1) := by decide +kernel
theorem dX9_reasonAt_13 : decode cX9_reasonAt 13 = .ok (.aload_n 2, 1) := by decide +kernel
theorem dX9_reasonAt_14 : decode cX9_reasonAt 14 = .ok (.iload_n 1, 1) := by decide +kernel
theorem dX9_reasonAt_15 : decode cX9_reasonAt 15 = .ok (.invokevirtual 49, 3) := by decide +kernel
theorem dX9_reasonAt_18 : decode cX9_reasonAt 18 = .ok (.aload_n 2, 1) := by decide +kernel
theorem dX9_reasonAt_19 : decode cX9_reasonAt 19 = .ok (.getfield 53, 3) := by decide +kernel
theorem dX9_reasonAt_22 : decode cX9_reasonAt 22 = .ok (.aload_n 2, 1) := by decide +kernel
theorem dX9_reasonAt_23 : decode cX9_reasonAt 23 = .ok (.getfield 56, 3) := by decide +kernel
theorem dX9_reasonAt_26 : decode cX9_reasonAt 26 = .ok (.iadd, 1) := by decide +kernel
theorem dX9_reasonAt_27 : decode cX9_reasonAt 27 = .ok (.bipush 6, 2) := by decide +kernel
theorem dX9_reasonAt_29 : decode cX9_reasonAt 29 = .ok (.if_icmp .gt 17, 3) := by decide +kernel
theorem dX9_reasonAt_32 : decode cX9_reasonAt 32 = .ok (.aload_n 2, 1) := by decide +kernel
theorem dX9_reasonAt_33 : decode cX9_reasonAt 33 = .ok (.getfield 59, 3) := by decide +kernel
theorem dX9_reasonAt_36 : decode cX9_reasonAt 36 = .ok (.aload_n 2, 1) := by decide +kernel
theorem dX9_reasonAt_37 : decode cX9_reasonAt 37 = .ok (.getfield 62, 3) := by decide +kernel
theorem dX9_reasonAt_40 : decode cX9_reasonAt 40 = .ok (.iadd, 1) := by decide +kernel
theorem dX9_reasonAt_41 : decode cX9_reasonAt 41 = .ok (.bipush 20, 2) := by decide +kernel
theorem dX9_reasonAt_43 : decode cX9_reasonAt 43 = .ok (.if_icmp .le 5, 3) := by decide +kernel
theorem dX9_reasonAt_46 : decode cX9_reasonAt 46 = .ok (.iconst 1, 1) := by decide +kernel
theorem dX9_reasonAt_47 : decode cX9_reasonAt 47 = .ok (.ireturn, 1) := by decide +kernel
theorem dX9_reasonAt_48 : decode cX9_reasonAt 48 = .ok (.aload_n 0, 1) := by decide +kernel
theorem dX9_reasonAt_49 : decode cX9_reasonAt 49 = .ok (.aload_n 2, 1) := by decide +kernel
theorem dX9_reasonAt_50 : decode cX9_reasonAt 50 = .ok (.invokevirtual 65, 3) := by decide +kernel
theorem dX9_reasonAt_53 : decode cX9_reasonAt 53 = .ok (.ifCond .eq 5, 3) := by decide +kernel
theorem dX9_reasonAt_56 : decode cX9_reasonAt 56 = .ok (.iconst 2, 1) := by decide +kernel
theorem dX9_reasonAt_57 : decode cX9_reasonAt 57 = .ok (.ireturn, 1) := by decide +kernel
theorem dX9_reasonAt_58 : decode cX9_reasonAt 58 = .ok (.aload_n 0, 1) := by decide +kernel
theorem dX9_reasonAt_59 : decode cX9_reasonAt 59 = .ok (.getfield 25, 3) := by decide +kernel
theorem dX9_reasonAt_62 : decode cX9_reasonAt 62 = .ok (.aload_n 0, 1) := by decide +kernel
theorem dX9_reasonAt_63 : decode cX9_reasonAt 63 = .ok (.getfield 12, 3) := by decide +kernel
theorem dX9_reasonAt_66 : decode cX9_reasonAt 66 = .ok (.invokevirtual 46, 3) := by decide +kernel
theorem dX9_reasonAt_69 : decode cX9_reasonAt 69 = .ok (.aload_n 0, 1) := by decide +kernel
theorem dX9_reasonAt_70 : decode cX9_reasonAt 70 = .ok (.aload_n 2, 1) := by decide +kernel
theorem dX9_reasonAt_71 : decode cX9_reasonAt 71 = .ok (.invokevirtual 69, 3) := by decide +kernel
theorem dX9_reasonAt_74 : decode cX9_reasonAt 74 = .ok (.ireturn, 1) := by decide +kernel
theorem dX10_addArticle_0 : decode cX10_addArticle 0 = .ok (.aload_n 0, 1) := by decide +kernel
theorem dX10_addArticle_1 : decode cX10_addArticle 1 = .ok (.getfield 12, 3) := by decide +kernel
theorem dX10_addArticle_4 : decode cX10_addArticle 4 = .ok (.getfield 53, 3) := by decide +kernel
theorem dX10_addArticle_7 : decode cX10_addArticle 7 = .ok (.astore_n 3, 1) := by decide +kernel
theorem dX10_addArticle_8 : decode cX10_addArticle 8 = .ok (.iload_n 1, 1) := by decide +kernel
theorem dX10_addArticle_9 : decode cX10_addArticle 9 = .ok (.invokestatic 57, 3) := by decide +kernel
theorem dX10_addArticle_12 : decode cX10_addArticle 12 = .ok (.ifCond .eq 14, 3) := by decide +kernel
theorem dX10_addArticle_15 : decode cX10_addArticle 15 = .ok (.iload_n 2, 1) := by decide +kernel
theorem dX10_addArticle_16 : decode cX10_addArticle 16 = .ok (.iconst 1, 1) := by decide +kernel
theorem dX10_addArticle_17 : decode cX10_addArticle 17 = .ok (.sipush 200, 3) := by decide +kernel
theorem dX10_addArticle_20 : decode cX10_addArticle 20 = .ok (.invokestatic 61, 3) := by decide +kernel
theorem dX10_addArticle_23 : decode cX10_addArticle 23 = .ok (.ifCond .ne 5, 3) := by decide +kernel
theorem dX10_addArticle_26 : decode cX10_addArticle 26 = .ok (.iconst (-1), 1) := by decide +kernel
theorem dX10_addArticle_27 : decode cX10_addArticle 27 = .ok (.ireturn, 1) := by decide +kernel
theorem dX10_addArticle_28 : decode cX10_addArticle 28 = .ok (.aload_n 3, 1) := by decide +kernel
theorem dX10_addArticle_29 : decode cX10_addArticle 29 = .ok (.getfield 65, 3) := by decide +kernel
theorem dX10_addArticle_32 : decode cX10_addArticle 32 = .ok (.bipush 6, 2) := by decide +kernel
theorem dX10_addArticle_34 : decode cX10_addArticle 34 = .ok (.if_icmp .lt 6, 3) := by decide +kernel
theorem dX10_addArticle_37 : decode cX10_addArticle 37 = .ok (.bipush (-3), 2) := by decide +kernel
theorem dX10_addArticle_39 : decode cX10_addArticle 39 = .ok (.ireturn, 1) := by decide +kernel
theorem dX10_addArticle_40 : decode cX10_addArticle 40 = .ok (.aload_n 0, 1) := by decide +kernel
theorem dX10_addArticle_41 : decode cX10_addArticle 41 = .ok (.invokevirtual 71, 3) := by decide +kernel
theorem dX10_addArticle_44 : decode cX10_addArticle 44 = .ok (.aload_n 3, 1) := by decide +kernel
theorem dX10_addArticle_45 : decode cX10_addArticle 45 = .ok (.iload_n 1, 1) := by decide +kernel
theorem dX10_addArticle_46 : decode cX10_addArticle 46 = .ok (.iload_n 2, 1) := by decide +kernel
theorem dX10_addArticle_47 : decode cX10_addArticle 47 = .ok (.invokevirtual 74, 3) := by decide +kernel
theorem dX10_addArticle_50 : decode cX10_addArticle 50 = .ok (.ireturn, 1) := by decide +kernel
theorem dX10_removeArticle_0 : decode cX10_removeArticle 0 = .ok (.aload_n 0, 1) := by decide +kernel
theorem dX10_removeArticle_1 : decode cX10_removeArticle 1 = .ok (.getfield 12, 3) := by decide +kernel
theorem dX10_removeArticle_4 : decode cX10_removeArticle 4 = .ok (.getfield 53, 3) := by decide +kernel
theorem dX10_removeArticle_7 : decode cX10_removeArticle 7 = .ok (.astore_n 2, 1) := by decide +kernel
theorem dX10_removeArticle_8 : decode cX10_removeArticle 8 = .ok (.aload_n 2, 1) := by decide +kernel
theorem dX10_removeArticle_9 : decode cX10_removeArticle 9 = .ok (.iload_n 1, 1) := by decide +kernel
theorem dX10_removeArticle_10 : decode cX10_removeArticle 10 = .ok (.invokevirtual 78, 3) := by decide +kernel
theorem dX10_removeArticle_13 : decode cX10_removeArticle 13 = .ok (.ifCond .ne 5, 3) := by decide +kernel
theorem dX10_removeArticle_16 : decode cX10_removeArticle 16 = .ok (.iconst (-1), 1) := by decide +kernel
theorem dX10_removeArticle_17 : decode cX10_removeArticle 17 = .ok (.ireturn, 1) := by decide +kernel
theorem dX10_removeArticle_18 : decode cX10_removeArticle 18 = .ok (.aload_n 0, 1) := by decide +kernel
theorem dX10_removeArticle_19 : decode cX10_removeArticle 19 = .ok (.invokevirtual 71, 3) := by decide +kernel
theorem dX10_removeArticle_22 : decode cX10_removeArticle 22 = .ok (.aload_n 2, 1) := by decide +kernel
theorem dX10_removeArticle_23 : decode cX10_removeArticle 23 = .ok (.iload_n 1, 1) := by decide +kernel
theorem dX10_removeArticle_24 : decode cX10_removeArticle 24 = .ok (.invokevirtual 81, 3) := by decide +kernel
theorem dX10_removeArticle_27 : decode cX10_removeArticle 27 = .ok (.aload_n 2, 1) := by decide +kernel
theorem dX10_removeArticle_28 : decode cX10_removeArticle 28 = .ok (.getfield 65, 3) := by decide +kernel
theorem dX10_removeArticle_31 : decode cX10_removeArticle 31 = .ok (.ireturn, 1) := by decide +kernel
theorem dX10_setArticle_0 : decode cX10_setArticle 0 = .ok (.aload_n 0, 1) := by decide +kernel
theorem dX10_setArticle_1 : decode cX10_setArticle 1 = .ok (.getfield 12, 3) := by decide +kernel
theorem dX10_setArticle_4 : decode cX10_setArticle 4 = .ok (.getfield 53, 3) := by decide +kernel
theorem dX10_setArticle_7 : decode cX10_setArticle 7 = .ok (.astore 4, 2) := by decide +kernel
theorem dX10_setArticle_9 : decode cX10_setArticle 9 = .ok (.aload 4, 2) := by decide +kernel
theorem dX10_setArticle_11 : decode cX10_setArticle 11 = .ok (.iload_n 1, 1) := by decide +kernel
theorem dX10_setArticle_12 : decode cX10_setArticle 12 = .ok (.invokevirtual 78, 3) := by decide +kernel
theorem dX10_setArticle_15 : decode cX10_setArticle 15 = .ok (.ifCond .eq 12, 3) := by decide +kernel
theorem dX10_setArticle_18 : decode cX10_setArticle 18 = .ok (.iload_n 2, 1) := by decide +kernel
theorem dX10_setArticle_19 : decode cX10_setArticle 19 = .ok (.iconst 0, 1) := by decide +kernel
theorem dX10_setArticle_20 : decode cX10_setArticle 20 = .ok (.iconst 1, 1) := by decide +kernel
theorem dX10_setArticle_21 : decode cX10_setArticle 21 = .ok (.invokestatic 61, 3) := by decide +kernel
theorem dX10_setArticle_24 : decode cX10_setArticle 24 = .ok (.ifCond .ne 5, 3) := by decide +kernel
theorem dX10_setArticle_27 : decode cX10_setArticle 27 = .ok (.iconst (-1), 1) := by decide +kernel
theorem dX10_setArticle_28 : decode cX10_setArticle 28 = .ok (.ireturn, 1) := by decide +kernel
theorem dX10_setArticle_29 : decode cX10_setArticle 29 = .ok (.aload 4, 2) := by decide +kernel
theorem dX10_setArticle_31 : decode cX10_setArticle 31 = .ok (.getfield 85, 3) := by decide +kernel
theorem dX10_setArticle_34 : decode cX10_setArticle 34 = .ok (.iload_n 1, 1) := by decide +kernel
theorem dX10_setArticle_35 : decode cX10_setArticle 35 = .ok (.aaload, 1) := by decide +kernel
theorem dX10_setArticle_36 : decode cX10_setArticle 36 = .ok (.astore 5, 2) := by decide +kernel
theorem dX10_setArticle_38 : decode cX10_setArticle 38 = .ok (.iload_n 2, 1) := by decide +kernel
theorem dX10_setArticle_39 : decode cX10_setArticle 39 = .ok (.ifCond .ne 32, 3) := by decide +kernel
theorem dX10_setArticle_42 : decode cX10_setArticle 42 = .ok (.iload_n 3, 1) := by decide +kernel
theorem dX10_setArticle_43 : decode cX10_setArticle 43 = .ok (.invokestatic 57, 3) := by decide +kernel
theorem dX10_setArticle_46 : decode cX10_setArticle 46 = .ok (.ifCond .ne 5, 3) := by decide +kernel
theorem dX10_setArticle_49 : decode cX10_setArticle 49 = .ok (.iconst (-1), 1) := by decide +kernel
theorem dX10_setArticle_50 : decode cX10_setArticle 50 = .ok (.ireturn, 1) := by decide +kernel
theorem dX10_setArticle_51 : decode cX10_setArticle 51 = .ok (.aload_n 0, 1) := by decide +kernel
theorem dX10_setArticle_52 : decode cX10_setArticle 52 = .ok (.invokevirtual 71, 3) := by decide +kernel
theorem dX10_setArticle_55 : decode cX10_setArticle 55 = .ok (.aload 5, 2) := by decide +kernel
theorem dX10_setArticle_57 : decode cX10_setArticle 57 = .ok (.getfield 89, 3) := by decide +kernel
theorem dX10_setArticle_60 : decode cX10_setArticle 60 = .ok (.istore 6, 2) := by decide +kernel
theorem dX10_setArticle_62 : decode cX10_setArticle 62 = .ok (.aload 5, 2) := by decide +kernel
theorem dX10_setArticle_64 : decode cX10_setArticle 64 = .ok (.iload_n 3, 1) := by decide +kernel
theorem dX10_setArticle_65 : decode cX10_setArticle 65 = .ok (.putfield 89, 3) := by decide +kernel
theorem dX10_setArticle_68 : decode cX10_setArticle 68 = .ok (.goto 37, 3) := by decide +kernel
theorem dX10_setArticle_71 : decode cX10_setArticle 71 = .ok (.iload_n 3, 1) := by decide +kernel
theorem dX10_setArticle_72 : decode cX10_setArticle 72 = .ok (.aload 5, 2) := by decide +kernel
theorem dX10_setArticle_74 : decode cX10_setArticle 74 = .ok (.invokevirtual 94, 3) := by decide +kernel
theorem dX10_setArticle_77 : decode cX10_setArticle 77 = .ok (.sipush 200, 3) := by decide +kernel
theorem dX10_setArticle_80 : decode cX10_setArticle 80 = .ok (.invokestatic 61, 3) := by decide +kernel
theorem dX10_setArticle_83 : decode cX10_setArticle 83 = .ok (.ifCond .ne 5, 3) := by decide +kernel
theorem dX10_setArticle_86 : decode cX10_setArticle 86 = .ok (.iconst (-1), 1) := by decide +kernel
theorem dX10_setArticle_87 : decode cX10_setArticle 87 = .ok (.ireturn, 1) := by decide +kernel
theorem dX10_setArticle_88 : decode cX10_setArticle 88 = .ok (.aload_n 0, 1) := by decide +kernel
theorem dX10_setArticle_89 : decode cX10_setArticle 89 = .ok (.invokevirtual 71, 3) := by decide +kernel
theorem dX10_setArticle_92 : decode cX10_setArticle 92 = .ok (.aload 5, 2) := by decide +kernel
theorem dX10_setArticle_94 : decode cX10_setArticle 94 = .ok (.getfield 98, 3) := by decide +kernel
theorem dX10_setArticle_97 : decode cX10_setArticle 97 = .ok (.istore 6, 2) := by decide +kernel
theorem dX10_setArticle_99 : decode cX10_setArticle 99 = .ok (.aload 5, 2) := by decide +kernel
theorem dX10_setArticle_101 : decode cX10_setArticle 101 = .ok (.iload_n 3, 1) := by decide +kernel
theorem dX10_setArticle_102 : decode cX10_setArticle 102 = .ok (.putfield 98, 3) := by decide +kernel
theorem dX10_setArticle_105 : decode cX10_setArticle 105 = .ok (.iload 6, 2) := by decide +kernel
theorem dX10_setArticle_107 : decode cX10_setArticle 107 = .ok (.ireturn, 1) := by decide +kernel
theorem dX10_addSentence_0 : decode cX10_addSentence 0 = .ok (.aload_n 0, 1) := by decide +kernel
theorem dX10_addSentence_1 : decode cX10_addSentence 1 = .ok (.getfield 12, 3) := by decide +kernel
theorem dX10_addSentence_4 : decode cX10_addSentence 4 = .ok (.getfield 53, 3) := by decide +kernel
theorem dX10_addSentence_7 : decode cX10_addSentence 7 = .ok (.astore_n 3, 1) := by decide +kernel
theorem dX10_addSentence_8 : decode cX10_addSentence 8 = .ok (.aload_n 3, 1) := by decide +kernel
theorem dX10_addSentence_9 : decode cX10_addSentence 9 = .ok (.iload_n 1, 1) := by decide +kernel
theorem dX10_addSentence_10 : decode cX10_addSentence 10 = .ok (.iload_n 2, 1) := by decide +kernel
theorem dX10_addSentence_11 : decode cX10_addSentence 11 = .ok (.invokevirtual 101, 3) := by decide +kernel
theorem dX10_addSentence_14 : decode cX10_addSentence 14 = .ok (.ifCond .ne 5, 3) := by decide +kernel
theorem dX10_addSentence_17 : decode cX10_addSentence 17 = .ok (.iconst (-1), 1) := by decide +kernel
theorem dX10_addSentence_18 : decode cX10_addSentence 18 = .ok (.ireturn, 1) := by decide +kernel
theorem dX10_addSentence_19 : decode cX10_addSentence 19 = .ok (.aload_n 3, 1) := by decide +kernel
theorem dX10_addSentence_20 : decode cX10_addSentence 20 = .ok (.getfield 85, 3) := by decide +kernel
theorem dX10_addSentence_23 : decode cX10_addSentence 23 = .ok (.iload_n 1, 1) := by decide +kernel
theorem dX10_addSentence_24 : decode cX10_addSentence 24 = .ok (.aaload, 1) := by decide +kernel
theorem dX10_addSentence_25 : decode cX10_addSentence 25 = .ok (.astore 4, 2) := by decide +kernel
theorem dX10_addSentence_27 : decode cX10_addSentence 27 = .ok (.aload 4, 2) := by decide +kernel
theorem dX10_addSentence_29 : decode cX10_addSentence 29 = .ok (.getfield 105, 3) := by decide +kernel
theorem dX10_addSentence_32 : decode cX10_addSentence 32 = .ok (.bipush 8, 2) := by decide +kernel
theorem dX10_addSentence_34 : decode cX10_addSentence 34 = .ok (.if_icmp .lt 6, 3) := by decide +kernel
theorem dX10_addSentence_37 : decode cX10_addSentence 37 = .ok (.bipush (-3), 2) := by decide +kernel
theorem dX10_addSentence_39 : decode cX10_addSentence 39 = .ok (.ireturn, 1) := by decide +kernel
theorem dX10_addSentence_40 : decode cX10_addSentence 40 = .ok (.aload_n 0, 1) := by decide +kernel
theorem dX10_addSentence_41 : decode cX10_addSentence 41 = .ok (.invokevirtual 71, 3) := by decide +kernel
theorem dX10_addSentence_44 : decode cX10_addSentence 44 = .ok (.aload 4, 2) := by decide +kernel
theorem dX10_addSentence_46 : decode cX10_addSentence 46 = .ok (.iload_n 2, 1) := by decide +kernel
theorem dX10_addSentence_47 : decode cX10_addSentence 47 = .ok (.invokevirtual 108, 3) := by decide +kernel
theorem dX10_addSentence_50 : decode cX10_addSentence 50 = .ok (.ireturn, 1) := by decide +kernel
theorem dX10_addQuote_0 : decode cX10_addQuote 0 = .ok (.aload_n 0, 1) := by decide +kernel
theorem dX10_addQuote_1 : decode cX10_addQuote 1 = .ok (.getfield 12, 3) := by decide +kernel
theorem dX10_addQuote_4 : decode cX10_addQuote 4 = .ok (.getfield 53, 3) := by decide +kernel
theorem dX10_addQuote_7 : decode cX10_addQuote 7 = .ok (.astore 5, 2) := by decide +kernel
theorem dX10_addQuote_9 : decode cX10_addQuote 9 = .ok (.aload 5, 2) := by decide +kernel
theorem dX10_addQuote_11 : decode cX10_addQuote 11 = .ok (.iload_n 1, 1) := by decide +kernel
theorem dX10_addQuote_12 : decode cX10_addQuote 12 = .ok (.iload_n 2, 1) := by decide +kernel
theorem dX10_addQuote_13 : decode cX10_addQuote 13 = .ok (.invokevirtual 112, 3) := by decide +kernel
theorem dX10_addQuote_16 : decode cX10_addQuote 16 = .ok (.ifCond .eq 23, 3) := by decide +kernel
theorem dX10_addQuote_19 : decode cX10_addQuote 19 = .ok (.iload_n 3, 1) := by decide +kernel
theorem dX10_addQuote_20 : decode cX10_addQuote 20 = .ok (.iconst 1, 1) := by decide +kernel
theorem dX10_addQuote_21 : decode cX10_addQuote 21 = .ok (.iconst 3, 1) := by decide +kernel
theorem dX10_addQuote_22 : decode cX10_addQuote 22 = .ok (.invokestatic 61, 3) := by decide +kernel
theorem dX10_addQuote_25 : decode cX10_addQuote 25 = .ok (.ifCond .eq 14, 3) := by decide +kernel
theorem dX10_addQuote_28 : decode cX10_addQuote 28 = .ok (.iload 4, 2) := by decide +kernel
theorem dX10_addQuote_30 : decode cX10_addQuote 30 = .ok (.iconst 1, 1) := by decide +kernel
theorem dX10_addQuote_31 : decode cX10_addQuote 31 = .ok (.bipush 6, 2) := by decide +kernel
theorem dX10_addQuote_33 : decode cX10_addQuote 33 = .ok (.invokestatic 61, 3) := by decide +kernel
theorem dX10_addQuote_36 : decode cX10_addQuote 36 = .ok (.ifCond .ne 5, 3) := by decide +kernel
theorem dX10_addQuote_39 : decode cX10_addQuote 39 = .ok (.iconst (-1), 1) := by decide +kernel
theorem dX10_addQuote_40 : decode cX10_addQuote 40 = .ok (.ireturn, 1) := by decide +kernel
theorem dX10_addQuote_41 : decode cX10_addQuote 41 = .ok (.aload 5, 2) := by decide +kernel
theorem dX10_addQuote_43 : decode cX10_addQuote 43 = .ok (.getfield 115, 3) := by decide +kernel
theorem dX10_addQuote_46 : decode cX10_addQuote 46 = .ok (.bipush 8, 2) := by decide +kernel
theorem dX10_addQuote_48 : decode cX10_addQuote 48 = .ok (.if_icmp .lt 6, 3) := by decide +kernel
theorem dX10_addQuote_51 : decode cX10_addQuote 51 = .ok (.bipush (-3), 2) := by decide +kernel
theorem dX10_addQuote_53 : decode cX10_addQuote 53 = .ok (.ireturn, 1) := by decide +kernel
theorem dX10_addQuote_54 : decode cX10_addQuote 54 = .ok (.aload_n 0, 1) := by decide +kernel
theorem dX10_addQuote_55 : decode cX10_addQuote 55 = .ok (.invokevirtual 71, 3) := by decide +kernel
theorem dX10_addQuote_58 : decode cX10_addQuote 58 = .ok (.aload 5, 2) := by decide +kernel
theorem dX10_addQuote_60 : decode cX10_addQuote 60 = .ok (.iload_n 1, 1) := by decide +kernel
theorem dX10_addQuote_61 : decode cX10_addQuote 61 = .ok (.iload_n 2, 1) := by decide +kernel
theorem dX10_addQuote_62 : decode cX10_addQuote 62 = .ok (.iload_n 3, 1) := by decide +kernel
theorem dX10_addQuote_63 : decode cX10_addQuote 63 = .ok (.iload 4, 2) := by decide +kernel
theorem dX10_addQuote_65 : decode cX10_addQuote 65 = .ok (.invokevirtual 118, 3) := by decide +kernel
theorem dX10_addQuote_68 : decode cX10_addQuote 68 = .ok (.ireturn, 1) := by decide +kernel
theorem dX10_removeQuote_0 : decode cX10_removeQuote 0 = .ok (.aload_n 0, 1) := by decide +kernel
theorem dX10_removeQuote_1 : decode cX10_removeQuote 1 = .ok (.getfield 12, 3) := by decide +kernel
theorem dX10_removeQuote_4 : decode cX10_removeQuote 4 = .ok (.getfield 53, 3) := by decide +kernel
theorem dX10_removeQuote_7 : decode cX10_removeQuote 7 = .ok (.astore_n 2, 1) := by decide +kernel
theorem dX10_removeQuote_8 : decode cX10_removeQuote 8 = .ok (.aload_n 2, 1) := by decide +kernel
theorem dX10_removeQuote_9 : decode cX10_removeQuote 9 = .ok (.iload_n 1, 1) := by decide +kernel
theorem dX10_removeQuote_10 : decode cX10_removeQuote 10 = .ok (.invokevirtual 122, 3) := by decide +kernel
theorem dX10_removeQuote_13 : decode cX10_removeQuote 13 = .ok (.ifCond .ne 5, 3) := by decide +kernel
theorem dX10_removeQuote_16 : decode cX10_removeQuote 16 = .ok (.iconst (-1), 1) := by decide +kernel
theorem dX10_removeQuote_17 : decode cX10_removeQuote 17 = .ok (.ireturn, 1) := by decide +kernel
theorem dX10_removeQuote_18 : decode cX10_removeQuote 18 = .ok (.aload_n 0, 1) := by decide +kernel
theorem dX10_removeQuote_19 : decode cX10_removeQuote 19 = .ok (.invokevirtual 71, 3) := by decide +kernel
theorem dX10_removeQuote_22 : decode cX10_removeQuote 22 = .ok (.aload_n 2, 1) := by decide +kernel
theorem dX10_removeQuote_23 : decode cX10_removeQuote 23 = .ok (.iload_n 1, 1) := by decide +kernel
theorem dX10_removeQuote_24 : decode cX10_removeQuote 24 = .ok (.invokevirtual 125, 3) := by decide +kernel
theorem dX10_removeQuote_27 : decode cX10_removeQuote 27 = .ok (.aload_n 2, 1) := by decide +kernel
theorem dX10_removeQuote_28 : decode cX10_removeQuote 28 = .ok (.getfield 115, 3) := by decide +kernel
theorem dX10_removeQuote_31 : decode cX10_removeQuote 31 = .ok (.ireturn, 1) := by decide +kernel
theorem dX10_lift_0 : decode cX10_lift 0 = .ok (.aload_n 0, 1) := by decide +kernel
theorem dX10_lift_1 : decode cX10_lift 1 = .ok (.getfield 12, 3) := by decide +kernel
theorem dX10_lift_4 : decode cX10_lift 4 = .ok (.getfield 53, 3) := by decide +kernel
theorem dX10_lift_7 : decode cX10_lift 7 = .ok (.astore_n 2, 1) := by decide +kernel
theorem dX10_lift_8 : decode cX10_lift 8 = .ok (.aload_n 2, 1) := by decide +kernel
theorem dX10_lift_9 : decode cX10_lift 9 = .ok (.iload_n 1, 1) := by decide +kernel
theorem dX10_lift_10 : decode cX10_lift 10 = .ok (.invokevirtual 122, 3) := by decide +kernel
theorem dX10_lift_13 : decode cX10_lift 13 = .ok (.ifCond .ne 5, 3) := by decide +kernel
theorem dX10_lift_16 : decode cX10_lift 16 = .ok (.iconst (-1), 1) := by decide +kernel
theorem dX10_lift_17 : decode cX10_lift 17 = .ok (.ireturn, 1) := by decide +kernel
theorem dX10_lift_18 : decode cX10_lift 18 = .ok (.aload_n 2, 1) := by decide +kernel
theorem dX10_lift_19 : decode cX10_lift 19 = .ok (.getfield 142, 3) := by decide +kernel
theorem dX10_lift_22 : decode cX10_lift 22 = .ok (.iload_n 1, 1) := by decide +kernel
theorem dX10_lift_23 : decode cX10_lift 23 = .ok (.aaload, 1) := by decide +kernel
theorem dX10_lift_24 : decode cX10_lift 24 = .ok (.getfield 154, 3) := by decide +kernel
theorem dX10_lift_27 : decode cX10_lift 27 = .ok (.ifCond .ne 6, 3) := by decide +kernel
theorem dX10_lift_30 : decode cX10_lift 30 = .ok (.bipush (-2), 2) := by decide +kernel
theorem dX10_lift_32 : decode cX10_lift 32 = .ok (.ireturn, 1) := by decide +kernel
theorem dX10_lift_33 : decode cX10_lift 33 = .ok (.aload_n 0, 1) := by decide +kernel
theorem dX10_lift_34 : decode cX10_lift 34 = .ok (.invokevirtual 71, 3) := by decide +kernel
theorem dX10_lift_37 : decode cX10_lift 37 = .ok (.aload_n 2, 1) := by decide +kernel
theorem dX10_lift_38 : decode cX10_lift 38 = .ok (.getfield 142, 3) := by decide +kernel
theorem dX10_lift_41 : decode cX10_lift 41 = .ok (.iload_n 1, 1) := by decide +kernel
theorem dX10_lift_42 : decode cX10_lift 42 = .ok (.aaload, 1) := by decide +kernel
theorem dX10_lift_43 : decode cX10_lift 43 = .ok (.iconst 0, 1) := by decide +kernel
theorem dX10_lift_44 : decode cX10_lift 44 = .ok (.putfield 154, 3) := by decide +kernel
theorem dX10_lift_47 : decode cX10_lift 47 = .ok (.aload_n 2, 1) := by decide +kernel
theorem dX10_lift_48 : decode cX10_lift 48 = .ok (.invokevirtual 151, 3) := by decide +kernel
theorem dX10_lift_51 : decode cX10_lift 51 = .ok (.ireturn, 1) := by decide +kernel
theorem dX10_setRule_0 : decode cX10_setRule 0 = .ok (.aload_n 0, 1) := by decide +kernel
theorem dX10_setRule_1 : decode cX10_setRule 1 = .ok (.getfield 12, 3) := by decide +kernel
theorem dX10_setRule_4 : decode cX10_setRule 4 = .ok (.getfield 53, 3) := by decide +kernel
theorem dX10_setRule_7 : decode cX10_setRule 7 = .ok (.getfield 163, 3) := by decide +kernel
theorem dX10_setRule_10 : decode cX10_setRule 10 = .ok (.astore_n 3, 1) := by decide +kernel
theorem dX10_setRule_11 : decode cX10_setRule 11 = .ok (.iload_n 1, 1) := by decide +kernel
theorem dX10_setRule_12 : decode cX10_setRule 12 = .ok (.iconst 0, 1) := by decide +kernel
theorem dX10_setRule_13 : decode cX10_setRule 13 = .ok (.iconst 2, 1) := by decide +kernel
theorem dX10_setRule_14 : decode cX10_setRule 14 = .ok (.invokestatic 61, 3) := by decide +kernel
theorem dX10_setRule_17 : decode cX10_setRule 17 = .ok (.ifCond .ne 5, 3) := by decide +kernel
theorem dX10_setRule_20 : decode cX10_setRule 20 = .ok (.iconst (-1), 1) := by decide +kernel
theorem dX10_setRule_21 : decode cX10_setRule 21 = .ok (.ireturn, 1) := by decide +kernel
theorem dX10_setRule_22 : decode cX10_setRule 22 = .ok (.iload_n 1, 1) := by decide +kernel
theorem dX10_setRule_23 : decode cX10_setRule 23 = .ok (.ifCond .ne 30, 3) := by decide +kernel
theorem dX10_setRule_26 : decode cX10_setRule 26 = .ok (.iload_n 2, 1) := by decide +kernel
theorem dX10_setRule_27 : decode cX10_setRule 27 = .ok (.iconst 0, 1) := by decide +kernel
theorem dX10_setRule_28 : decode cX10_setRule 28 = .ok (.bipush 10, 2) := by decide +kernel
theorem dX10_setRule_30 : decode cX10_setRule 30 = .ok (.invokestatic 61, 3) := by decide +kernel
theorem dX10_setRule_33 : decode cX10_setRule 33 = .ok (.ifCond .eq 14, 3) := by decide +kernel
theorem dX10_setRule_36 : decode cX10_setRule 36 = .ok (.iload_n 2, 1) := by decide +kernel
theorem dX10_setRule_37 : decode cX10_setRule 37 = .ok (.aload_n 3, 1) := by decide +kernel
theorem dX10_setRule_38 : decode cX10_setRule 38 = .ok (.iconst 1, 1) := by decide +kernel
theorem dX10_setRule_39 : decode cX10_setRule 39 = .ok (.iaload, 1) := by decide +kernel
theorem dX10_setRule_40 : decode cX10_setRule 40 = .ok (.if_icmp .gt 7, 3) := by decide +kernel
theorem dX10_setRule_43 : decode cX10_setRule 43 = .ok (.iconst 1, 1) := by decide +kernel
theorem dX10_setRule_44 : decode cX10_setRule 44 = .ok (.goto 4, 3) := by decide +kernel
theorem dX10_setRule_47 : decode cX10_setRule 47 = .ok (.iconst 0, 1) := by decide +kernel
theorem dX10_setRule_48 : decode cX10_setRule 48 = .ok (.istore 4, 2) := by decide +kernel
theorem dX10_setRule_50 : decode cX10_setRule 50 = .ok (.goto 44, 3) := by decide +kernel
theorem dX10_setRule_53 : decode cX10_setRule 53 = .ok (.iload_n 1, 1) := by decide +kernel
theorem dX10_setRule_54 : decode cX10_setRule 54 = .ok (.iconst 1, 1) := by decide +kernel
theorem dX10_setRule_55 : decode cX10_setRule 55 = .ok (.if_icmp .ne 30, 3) := by decide +kernel
theorem dX10_setRule_58 : decode cX10_setRule 58 = .ok (.iload_n 2, 1) := by decide +kernel
theorem dX10_setRule_59 : decode cX10_setRule 59 = .ok (.iconst 0, 1) := by decide +kernel
theorem dX10_setRule_60 : decode cX10_setRule 60 = .ok (.bipush 20, 2) := by decide +kernel
theorem dX10_setRule_62 : decode cX10_setRule 62 = .ok (.invokestatic 61, 3) := by decide +kernel
theorem dX10_setRule_65 : decode cX10_setRule 65 = .ok (.ifCond .eq 14, 3) := by decide +kernel
theorem dX10_setRule_68 : decode cX10_setRule 68 = .ok (.iload_n 2, 1) := by decide +kernel
theorem dX10_setRule_69 : decode cX10_setRule 69 = .ok (.aload_n 3, 1) := by decide +kernel
theorem dX10_setRule_70 : decode cX10_setRule 70 = .ok (.iconst 0, 1) := by decide +kernel
theorem dX10_setRule_71 : decode cX10_setRule 71 = .ok (.iaload, 1) := by decide +kernel
theorem dX10_setRule_72 : decode cX10_setRule 72 = .ok (.if_icmp .lt 7, 3) := by decide +kernel
theorem dX10_setRule_75 : decode cX10_setRule 75 = .ok (.iconst 1, 1) := by decide +kernel
theorem dX10_setRule_76 : decode cX10_setRule 76 = .ok (.goto 4, 3) := by decide +kernel
theorem dX10_setRule_79 : decode cX10_setRule 79 = .ok (.iconst 0, 1) := by decide +kernel
theorem dX10_setRule_80 : decode cX10_setRule 80 = .ok (.istore 4, 2) := by decide +kernel
theorem dX10_setRule_82 : decode cX10_setRule 82 = .ok (.goto 12, 3) := by decide +kernel
theorem dX10_setRule_85 : decode cX10_setRule 85 = .ok (.iload_n 2, 1) := by decide +kernel
theorem dX10_setRule_86 : decode cX10_setRule 86 = .ok (.iconst 1, 1) := by decide +kernel
theorem dX10_setRule_87 : decode cX10_setRule 87 = .ok (.bipush 10, 2) := by decide +kernel
theorem dX10_setRule_89 : decode cX10_setRule 89 = .ok (.invokestatic 61, 3) := by decide +kernel
theorem dX10_setRule_92 : decode cX10_setRule 92 = .ok (.istore 4, 2) := by decide +kernel
theorem dX10_setRule_94 : decode cX10_setRule 94 = .ok (.iload 4, 2) := by decide +kernel
theorem dX10_setRule_96 : decode cX10_setRule 96 = .ok (.ifCond .ne 5, 3) := by decide +kernel
theorem dX10_setRule_99 : decode cX10_setRule 99 = .ok (.iconst (-1), 1) := by decide +kernel
theorem dX10_setRule_100 : decode cX10_setRule 100 = .ok (.ireturn, 1) := by decide +kernel
theorem dX10_setRule_101 : decode cX10_setRule 101 = .ok (.aload_n 0, 1) := by decide +kernel
theorem dX10_setRule_102 : decode cX10_setRule 102 = .ok (.invokevirtual 71, 3) := by decide +kernel
theorem dX10_setRule_105 : decode cX10_setRule 105 = .ok (.aload_n 3, 1) := by decide +kernel
theorem dX10_setRule_106 : decode cX10_setRule 106 = .ok (.iload_n 1, 1) := by decide +kernel
theorem dX10_setRule_107 : decode cX10_setRule 107 = .ok (.iaload, 1) := by decide +kernel
theorem dX10_setRule_108 : decode cX10_setRule 108 = .ok (.istore 5, 2) := by decide +kernel
theorem dX10_setRule_110 : decode cX10_setRule 110 = .ok (.aload_n 3, 1) := by decide +kernel
theorem dX10_setRule_111 : decode cX10_setRule 111 = .ok (.iload_n 1, 1) := by decide +kernel
theorem dX10_setRule_112 : decode cX10_setRule 112 = .ok (.iload_n 2, 1) := by decide +kernel
theorem dX10_setRule_113 : decode cX10_setRule 113 = .ok (.iastore, 1) := by decide +kernel
theorem dX10_setRule_114 : decode cX10_setRule 114 = .ok (.iload 5, 2) := by decide +kernel
theorem dX10_setRule_116 : decode cX10_setRule 116 = .ok (.ireturn, 1) := by decide +kernel
theorem dX10_take_0 : decode cX10_take 0 = .ok (.iload_n 1, 1) := by decide +kernel
theorem dX10_take_1 : decode cX10_take 1 = .ok (.iconst 0, 1) := by decide +kernel
theorem dX10_take_2 : decode cX10_take 2 = .ok (.iconst 1, 1) := by decide +kernel
theorem dX10_take_3 : decode cX10_take 3 = .ok (.invokestatic 61, 3) := by decide +kernel
theorem dX10_take_6 : decode cX10_take 6 = .ok (.ifCond .ne 5, 3) := by decide +kernel
theorem dX10_take_9 : decode cX10_take 9 = .ok (.iconst (-1), 1) := by decide +kernel
theorem dX10_take_10 : decode cX10_take 10 = .ok (.ireturn, 1) := by decide +kernel
theorem dX10_take_11 : decode cX10_take 11 = .ok (.aload_n 0, 1) := by decide +kernel
theorem dX10_take_12 : decode cX10_take 12 = .ok (.invokevirtual 71, 3) := by decide +kernel
theorem dX10_take_15 : decode cX10_take 15 = .ok (.aload_n 0, 1) := by decide +kernel
theorem dX10_take_16 : decode cX10_take 16 = .ok (.getfield 12, 3) := by decide +kernel
theorem dX10_take_19 : decode cX10_take 19 = .ok (.getfield 167, 3) := by decide +kernel
theorem dX10_take_22 : decode cX10_take 22 = .ok (.iload_n 1, 1) := by decide +kernel
theorem dX10_take_23 : decode cX10_take 23 = .ok (.aaload, 1) := by decide +kernel
theorem dX10_take_24 : decode cX10_take 24 = .ok (.aload_n 0, 1) := by decide +kernel
theorem dX10_take_25 : decode cX10_take 25 = .ok (.getfield 12, 3) := by decide +kernel
theorem dX10_take_28 : decode cX10_take 28 = .ok (.getfield 53, 3) := by decide +kernel
theorem dX10_take_31 : decode cX10_take 31 = .ok (.invokevirtual 171, 3) := by decide +kernel
theorem dX10_take_34 : decode cX10_take 34 = .ok (.aload_n 0, 1) := by decide +kernel
theorem dX10_take_35 : decode cX10_take 35 = .ok (.getfield 12, 3) := by decide +kernel
theorem dX10_take_38 : decode cX10_take 38 = .ok (.getfield 175, 3) := by decide +kernel
theorem dX10_take_41 : decode cX10_take 41 = .ok (.iload_n 1, 1) := by decide +kernel
theorem dX10_take_42 : decode cX10_take 42 = .ok (.iconst 1, 1) := by decide +kernel
theorem dX10_take_43 : decode cX10_take 43 = .ok (.bastore, 1) := by decide +kernel
theorem dX10_take_44 : decode cX10_take 44 = .ok (.aload_n 0, 1) := by decide +kernel
theorem dX10_take_45 : decode cX10_take 45 = .ok (.getfield 12, 3) := by decide +kernel
theorem dX10_take_48 : decode cX10_take 48 = .ok (.getfield 53, 3) := by decide +kernel
theorem dX10_take_51 : decode cX10_take 51 = .ok (.invokevirtual 179, 3) := by decide +kernel
theorem dX10_take_54 : decode cX10_take 54 = .ok (.ireturn, 1) := by decide +kernel
theorem dX10_restore_0 : decode cX10_restore 0 = .ok (.iload_n 1, 1) := by decide +kernel
theorem dX10_restore_1 : decode cX10_restore 1 = .ok (.iconst 0, 1) := by decide +kernel
theorem dX10_restore_2 : decode cX10_restore 2 = .ok (.iconst 1, 1) := by decide +kernel
theorem dX10_restore_3 : decode cX10_restore 3 = .ok (.invokestatic 61, 3) := by decide +kernel
theorem dX10_restore_6 : decode cX10_restore 6 = .ok (.ifCond .ne 5, 3) := by decide +kernel
theorem dX10_restore_9 : decode cX10_restore 9 = .ok (.iconst (-1), 1) := by decide +kernel
theorem dX10_restore_10 : decode cX10_restore 10 = .ok (.ireturn, 1) := by decide +kernel
theorem dX10_restore_11 : decode cX10_restore 11 = .ok (.aload_n 0, 1) := by decide +kernel
theorem dX10_restore_12 : decode cX10_restore 12 = .ok (.getfield 12, 3) := by decide +kernel
theorem dX10_restore_15 : decode cX10_restore 15 = .ok (.getfield 175, 3) := by decide +kernel
theorem dX10_restore_18 : decode cX10_restore 18 = .ok (.iload_n 1, 1) := by decide +kernel
theorem dX10_restore_19 : decode cX10_restore 19 = .ok (.baload, 1) := by decide +kernel
theorem dX10_restore_20 : decode cX10_restore 20 = .ok (.ifCond .ne 6, 3) := by decide +kernel
theorem dX10_restore_23 : decode cX10_restore 23 = .ok (.bipush (-2), 2) := by decide +kernel
theorem dX10_restore_25 : decode cX10_restore 25 = .ok (.ireturn, 1) := by decide +kernel
theorem dX10_restore_26 : decode cX10_restore 26 = .ok (.aload_n 0, 1) := by decide +kernel
theorem dX10_restore_27 : decode cX10_restore 27 = .ok (.invokevirtual 71, 3) := by decide +kernel
theorem dX10_restore_30 : decode cX10_restore 30 = .ok (.aload_n 0, 1) := by decide +kernel
theorem dX10_restore_31 : decode cX10_restore 31 = .ok (.getfield 12, 3) := by decide +kernel
theorem dX10_restore_34 : decode cX10_restore 34 = .ok (.getfield 53, 3) := by decide +kernel
theorem dX10_restore_37 : decode cX10_restore 37 = .ok (.aload_n 0, 1) := by decide +kernel
theorem dX10_restore_38 : decode cX10_restore 38 = .ok (.getfield 12, 3) := by decide +kernel
theorem dX10_restore_41 : decode cX10_restore 41 = .ok (.getfield 167, 3) := by decide +kernel
theorem dX10_restore_44 : decode cX10_restore 44 = .ok (.iload_n 1, 1) := by decide +kernel
theorem dX10_restore_45 : decode cX10_restore 45 = .ok (.aaload, 1) := by decide +kernel
theorem dX10_restore_46 : decode cX10_restore 46 = .ok (.invokevirtual 171, 3) := by decide +kernel
theorem dX10_restore_49 : decode cX10_restore 49 = .ok (.aload_n 0, 1) := by decide +kernel
theorem dX10_restore_50 : decode cX10_restore 50 = .ok (.getfield 12, 3) := by decide +kernel
theorem dX10_restore_53 : decode cX10_restore 53 = .ok (.getfield 53, 3) := by decide +kernel
theorem dX10_restore_56 : decode cX10_restore 56 = .ok (.invokevirtual 179, 3) := by decide +kernel
theorem dX10_restore_59 : decode cX10_restore 59 = .ok (.ireturn, 1) := by decide +kernel
theorem dX6_read_0 : decode cX6_read 0 = .ok (.aload_n 0, 1) := by decide +kernel
theorem dX6_read_1 : decode cX6_read 1 = .ok (.getfield 21, 3) := by decide +kernel
theorem dX6_read_4 : decode cX6_read 4 = .ok (.aload_n 1, 1) := by decide +kernel
theorem dX6_read_5 : decode cX6_read 5 = .ok (.invokevirtual 29, 3) := by decide +kernel
theorem dX6_read_8 : decode cX6_read 8 = .ok (.aload_n 0, 1) := by decide +kernel
theorem dX6_read_9 : decode cX6_read 9 = .ok (.iconst 0, 1) := by decide +kernel
theorem dX6_read_10 : decode cX6_read 10 = .ok (.putfield 33, 3) := by decide +kernel
theorem dX6_read_13 : decode cX6_read 13 = .ok (.aload_n 0, 1) := by decide +kernel
theorem dX6_read_14 : decode cX6_read 14 = .ok (.iconst 0, 1) := by decide +kernel
theorem dX6_read_15 : decode cX6_read 15 = .ok (.putfield 36, 3) := by decide +kernel
theorem dX6_read_18 : decode cX6_read 18 = .ok (.aload_n 0, 1) := by decide +kernel
theorem dX6_read_19 : decode cX6_read 19 = .ok (.iconst (-1), 1) := by decide +kernel
theorem dX6_read_20 : decode cX6_read 20 = .ok (.putfield 25, 3) := by decide +kernel
theorem dX6_read_23 : decode cX6_read 23 = .ok (.iconst 0, 1) := by decide +kernel
theorem dX6_read_24 : decode cX6_read 24 = .ok (.istore_n 2, 1) := by decide +kernel
theorem dX6_read_25 : decode cX6_read 25 = .ok (.iload_n 2, 1) := by decide +kernel
theorem dX6_read_26 : decode cX6_read 26 = .ok (.sipush 140, 3) := by decide +kernel
theorem dX6_read_29 : decode cX6_read 29 = .ok (.if_icmp .ge 37, 3) := by decide +kernel
theorem dX6_read_32 : decode cX6_read 32 = .ok (.aload_n 0, 1) := by decide +kernel
theorem dX6_read_33 : decode cX6_read 33 = .ok (.invokevirtual 39, 3) := by decide +kernel
theorem dX6_read_36 : decode cX6_read 36 = .ok (.ifCond .ne 30, 3) := by decide +kernel
theorem dX6_read_39 : decode cX6_read 39 = .ok (.aload_n 0, 1) := by decide +kernel
theorem dX6_read_40 : decode cX6_read 40 = .ok (.invokevirtual 43, 3) := by decide +kernel
theorem dX6_read_43 : decode cX6_read 43 = .ok (.ifCond .eq 23, 3) := by decide +kernel
theorem dX6_read_46 : decode cX6_read 46 = .ok (.aload_n 0, 1) := by decide +kernel
theorem dX6_read_47 : decode cX6_read 47 = .ok (.invokevirtual 47, 3) := by decide +kernel
theorem dX6_read_50 : decode cX6_read 50 = .ok (.aload_n 0, 1) := by decide +kernel
theorem dX6_read_51 : decode cX6_read 51 = .ok (.dup, 1) := by decide +kernel
theorem dX6_read_52 : decode cX6_read 52 = .ok (.getfield 33, 3) := by decide +kernel
theorem dX6_read_55 : decode cX6_read 55 = .ok (.iconst 1, 1) := by decide +kernel
theorem dX6_read_56 : decode cX6_read 56 = .ok (.iadd, 1) := by decide +kernel
theorem dX6_read_57 : decode cX6_read 57 = .ok (.putfield 33, 3) := by decide +kernel
theorem dX6_read_60 : decode cX6_read 60 = .ok (.iinc 2 1, 3) := by decide +kernel
theorem dX6_read_63 : decode cX6_read 63 = .ok (.goto (-38), 3) := by decide +kernel
theorem dX6_read_66 : decode cX6_read 66 = .ok (.return_, 1) := by decide +kernel
theorem dX9_seekBest_0 : decode cX9_seekBest 0 = .ok (.aload_n 0, 1) := by decide +kernel
theorem dX9_seekBest_1 : decode cX9_seekBest 1 = .ok (.aload_n 1, 1) := by decide +kernel
theorem dX9_seekBest_2 : decode cX9_seekBest 2 = .ok (.iload_n 2, 1) := by decide +kernel
theorem dX9_seekBest_3 : decode cX9_seekBest 3 = .ok (.invokevirtual 117, 3) := by decide +kernel
theorem dX9_seekBest_6 : decode cX9_seekBest 6 = .ok (.aload_n 0, 1) := by decide +kernel
theorem dX9_seekBest_7 : decode cX9_seekBest 7 = .ok (.bipush (-99), 2) := by decide +kernel
theorem dX9_seekBest_9 : decode cX9_seekBest 9 = .ok (.putfield 121, 3) := by decide +kernel
theorem dX9_seekBest_12 : decode cX9_seekBest 12 = .ok (.aload_n 0, 1) := by decide +kernel
theorem dX9_seekBest_13 : decode cX9_seekBest 13 = .ok (.bipush (-99), 2) := by decide +kernel
theorem dX9_seekBest_15 : decode cX9_seekBest 15 = .ok (.putfield 124, 3) := by decide +kernel
theorem dX9_seekBest_18 : decode cX9_seekBest 18 = .ok (.iconst 0, 1) := by decide +kernel
theorem dX9_seekBest_19 : decode cX9_seekBest 19 = .ok (.istore_n 3, 1) := by decide +kernel
theorem dX9_seekBest_20 : decode cX9_seekBest 20 = .ok (.iload_n 3, 1) := by decide +kernel
theorem dX9_seekBest_21 : decode cX9_seekBest 21 = .ok (.sipush 360, 3) := by decide +kernel
theorem dX9_seekBest_24 : decode cX9_seekBest 24 = .ok (.if_icmp .ge 53, 3) := by decide +kernel
theorem dX9_seekBest_27 : decode cX9_seekBest 27 = .ok (.aload_n 0, 1) := by decide +kernel
theorem dX9_seekBest_28 : decode cX9_seekBest 28 = .ok (.iload_n 3, 1) := by decide +kernel
theorem dX9_seekBest_29 : decode cX9_seekBest 29 = .ok (.invokevirtual 127, 3) := by decide +kernel
theorem dX9_seekBest_32 : decode cX9_seekBest 32 = .ok (.istore 4, 2) := by decide +kernel
theorem dX9_seekBest_34 : decode cX9_seekBest 34 = .ok (.aload_n 0, 1) := by decide +kernel
theorem dX9_seekBest_35 : decode cX9_seekBest 35 = .ok (.getfield 121, 3) := by decide +kernel
theorem dX9_seekBest_38 : decode cX9_seekBest 38 = .ok (.bipush (-99), 2) := by decide +kernel
theorem dX9_seekBest_40 : decode cX9_seekBest 40 = .ok (.if_icmp .eq 12, 3) := by decide +kernel
theorem dX9_seekBest_43 : decode cX9_seekBest 43 = .ok (.iload 4, 2) := by decide +kernel
theorem dX9_seekBest_45 : decode cX9_seekBest 45 = .ok (.aload_n 0, 1) := by decide +kernel
theorem dX9_seekBest_46 : decode cX9_seekBest 46 = .ok (.getfield 124, 3) := by decide +kernel
theorem dX9_seekBest_49 : decode cX9_seekBest 49 = .ok (.if_icmp .ge 22, 3) := by decide +kernel
theorem dX9_seekBest_52 : decode cX9_seekBest 52 = .ok (.aload_n 0, 1) := by decide +kernel
theorem dX9_seekBest_53 : decode cX9_seekBest 53 = .ok (.iload_n 3, 1) := by decide +kernel
theorem dX9_seekBest_54 : decode cX9_seekBest 54 = .ok (.invokevirtual 131, 3) := by decide +kernel
theorem dX9_seekBest_57 : decode cX9_seekBest 57 = .ok (.ifCond .ne 14, 3) := by decide +kernel
theorem dX9_seekBest_60 : decode cX9_seekBest 60 = .ok (.aload_n 0, 1) := by decide +kernel
theorem dX9_seekBest_61 : decode cX9_seekBest 61 = .ok (.iload_n 3, 1) := by decide +kernel
theorem dX9_seekBest_62 : decode cX9_seekBest 62 = .ok (.putfield 121, 3) := by decide +kernel
theorem dX9_seekBest_65 : decode cX9_seekBest 65 = .ok (.aload_n 0, 1) := by decide +kernel
theorem dX9_seekBest_66 : decode cX9_seekBest 66 = .ok (.iload 4, 2) := by decide +kernel
theorem dX9_seekBest_68 : decode cX9_seekBest 68 = .ok (.putfield 124, 3) := by decide +kernel
theorem dX9_seekBest_71 : decode cX9_seekBest 71 = .ok (.iinc 3 1, 3) := by decide +kernel
theorem dX9_seekBest_74 : decode cX9_seekBest 74 = .ok (.goto (-54), 3) := by decide +kernel
theorem dX9_seekBest_77 : decode cX9_seekBest 77 = .ok (.return_, 1) := by decide +kernel
theorem dX10_place_0 : decode cX10_place 0 = .ok (.aload_n 0, 1) := by decide +kernel
theorem dX10_place_1 : decode cX10_place 1 = .ok (.getfield 12, 3) := by decide +kernel
theorem dX10_place_4 : decode cX10_place 4 = .ok (.getfield 53, 3) := by decide +kernel
theorem dX10_place_7 : decode cX10_place 7 = .ok (.astore 5, 2) := by decide +kernel
theorem dX10_place_9 : decode cX10_place 9 = .ok (.aload 5, 2) := by decide +kernel
theorem dX10_place_11 : decode cX10_place 11 = .ok (.iload_n 1, 1) := by decide +kernel
theorem dX10_place_12 : decode cX10_place 12 = .ok (.invokevirtual 122, 3) := by decide +kernel
theorem dX10_place_15 : decode cX10_place 15 = .ok (.ifCond .eq 13, 3) := by decide +kernel
theorem dX10_place_18 : decode cX10_place 18 = .ok (.iload_n 2, 1) := by decide +kernel
theorem dX10_place_19 : decode cX10_place 19 = .ok (.iload_n 3, 1) := by decide +kernel
theorem dX10_place_20 : decode cX10_place 20 = .ok (.iload 4, 2) := by decide +kernel
theorem dX10_place_22 : decode cX10_place 22 = .ok (.invokestatic 128, 3) := by decide +kernel
theorem dX10_place_25 : decode cX10_place 25 = .ok (.ifCond .ne 5, 3) := by decide +kernel
theorem dX10_place_28 : decode cX10_place 28 = .ok (.iconst (-1), 1) := by decide +kernel
theorem dX10_place_29 : decode cX10_place 29 = .ok (.ireturn, 1) := by decide +kernel
theorem dX10_place_30 : decode cX10_place 30 = .ok (.iload_n 2, 1) := by decide +kernel
theorem dX10_place_31 : decode cX10_place 31 = .ok (.iload_n 3, 1) := by decide +kernel
theorem dX10_place_32 : decode cX10_place 32 = .ok (.iload 4, 2) := by decide +kernel
theorem dX10_place_34 : decode cX10_place 34 = .ok (.invokestatic 131, 3) := by decide +kernel
theorem dX10_place_37 : decode cX10_place 37 = .ok (.istore 6, 2) := by decide +kernel
theorem dX10_place_39 : decode cX10_place 39 = .ok (.aload_n 0, 1) := by decide +kernel
theorem dX10_place_40 : decode cX10_place 40 = .ok (.getfield 38, 3) := by decide +kernel
theorem dX10_place_43 : decode cX10_place 43 = .ok (.aload 5, 2) := by decide +kernel
theorem dX10_place_45 : decode cX10_place 45 = .ok (.iload_n 1, 1) := by decide +kernel
theorem dX10_place_46 : decode cX10_place 46 = .ok (.invokevirtual 135, 3) := by decide +kernel
theorem dX10_place_49 : decode cX10_place 49 = .ok (.aload_n 0, 1) := by decide +kernel
theorem dX10_place_50 : decode cX10_place 50 = .ok (.getfield 38, 3) := by decide +kernel
theorem dX10_place_53 : decode cX10_place 53 = .ok (.iload 6, 2) := by decide +kernel
theorem dX10_place_55 : decode cX10_place 55 = .ok (.invokevirtual 139, 3) := by decide +kernel
theorem dX10_place_58 : decode cX10_place 58 = .ok (.ifCond .eq 6, 3) := by decide +kernel
theorem dX10_place_61 : decode cX10_place 61 = .ok (.bipush (-2), 2) := by decide +kernel
theorem dX10_place_63 : decode cX10_place 63 = .ok (.ireturn, 1) := by decide +kernel
theorem dX10_place_64 : decode cX10_place 64 = .ok (.aload_n 0, 1) := by decide +kernel
theorem dX10_place_65 : decode cX10_place 65 = .ok (.invokevirtual 71, 3) := by decide +kernel
theorem dX10_place_68 : decode cX10_place 68 = .ok (.aload 5, 2) := by decide +kernel
theorem dX10_place_70 : decode cX10_place 70 = .ok (.getfield 142, 3) := by decide +kernel
theorem dX10_place_73 : decode cX10_place 73 = .ok (.iload_n 1, 1) := by decide +kernel
theorem dX10_place_74 : decode cX10_place 74 = .ok (.aaload, 1) := by decide +kernel
theorem dX10_place_75 : decode cX10_place 75 = .ok (.iload 6, 2) := by decide +kernel
theorem dX10_place_77 : decode cX10_place 77 = .ok (.invokevirtual 146, 3) := by decide +kernel
theorem dX10_place_80 : decode cX10_place 80 = .ok (.aload 5, 2) := by decide +kernel
theorem dX10_place_82 : decode cX10_place 82 = .ok (.invokevirtual 151, 3) := by decide +kernel
theorem dX10_place_85 : decode cX10_place 85 = .ok (.ireturn, 1) := by decide +kernel
theorem dX10_refusal_0 : decode cX10_refusal 0 = .ok (.aload_n 0, 1) := by decide +kernel
theorem dX10_refusal_1 : decode cX10_refusal 1 = .ok (.getfield 12, 3) := by decide +kernel
theorem dX10_refusal_4 : decode cX10_refusal 4 = .ok (.getfield 53, 3) := by decide +kernel
theorem dX10_refusal_7 : decode cX10_refusal 7 = .ok (.iload_n 1, 1) := by decide +kernel
theorem dX10_refusal_8 : decode cX10_refusal 8 = .ok (.invokevirtual 122, 3) := by decide +kernel
theorem dX10_refusal_11 : decode cX10_refusal 11 = .ok (.ifCond .eq 13, 3) := by decide +kernel
theorem dX10_refusal_14 : decode cX10_refusal 14 = .ok (.iload_n 2, 1) := by decide +kernel
theorem dX10_refusal_15 : decode cX10_refusal 15 = .ok (.iload_n 3, 1) := by decide +kernel
theorem dX10_refusal_16 : decode cX10_refusal 16 = .ok (.iload 4, 2) := by decide +kernel
theorem dX10_refusal_18 : decode cX10_refusal 18 = .ok (.invokestatic 128, 3) := by decide +kernel
theorem dX10_refusal_21 : decode cX10_refusal 21 = .ok (.ifCond .ne 5, 3) := by decide +kernel
theorem dX10_refusal_24 : decode cX10_refusal 24 = .ok (.iconst (-1), 1) := by decide +kernel
theorem dX10_refusal_25 : decode cX10_refusal 25 = .ok (.ireturn, 1) := by decide +kernel
theorem dX10_refusal_26 : decode cX10_refusal 26 = .ok (.aload_n 0, 1) := by decide +kernel
theorem dX10_refusal_27 : decode cX10_refusal 27 = .ok (.getfield 38, 3) := by decide +kernel
theorem dX10_refusal_30 : decode cX10_refusal 30 = .ok (.aload_n 0, 1) := by decide +kernel
theorem dX10_refusal_31 : decode cX10_refusal 31 = .ok (.getfield 12, 3) := by decide +kernel
theorem dX10_refusal_34 : decode cX10_refusal 34 = .ok (.getfield 53, 3) := by decide +kernel
theorem dX10_refusal_37 : decode cX10_refusal 37 = .ok (.iload_n 1, 1) := by decide +kernel
theorem dX10_refusal_38 : decode cX10_refusal 38 = .ok (.invokevirtual 135, 3) := by decide +kernel
theorem dX10_refusal_41 : decode cX10_refusal 41 = .ok (.aload_n 0, 1) := by decide +kernel
theorem dX10_refusal_42 : decode cX10_refusal 42 = .ok (.getfield 38, 3) := by decide +kernel
theorem dX10_refusal_45 : decode cX10_refusal 45 = .ok (.iload_n 2, 1) := by decide +kernel
theorem dX10_refusal_46 : decode cX10_refusal 46 = .ok (.iload_n 3, 1) := by decide +kernel
theorem dX10_refusal_47 : decode cX10_refusal 47 = .ok (.iload 4, 2) := by decide +kernel
theorem dX10_refusal_49 : decode cX10_refusal 49 = .ok (.invokestatic 131, 3) := by decide +kernel
theorem dX10_refusal_52 : decode cX10_refusal 52 = .ok (.invokevirtual 139, 3) := by decide +kernel
theorem dX10_refusal_55 : decode cX10_refusal 55 = .ok (.ireturn, 1) := by decide +kernel
theorem dX10_troubled_0 : decode cX10_troubled 0 = .ok (.aload_n 0, 1) := by decide +kernel
theorem dX10_troubled_1 : decode cX10_troubled 1 = .ok (.getfield 12, 3) := by decide +kernel
theorem dX10_troubled_4 : decode cX10_troubled 4 = .ok (.getfield 53, 3) := by decide +kernel
theorem dX10_troubled_7 : decode cX10_troubled 7 = .ok (.astore_n 1, 1) := by decide +kernel
theorem dX10_troubled_8 : decode cX10_troubled 8 = .ok (.iconst 0, 1) := by decide +kernel
theorem dX10_troubled_9 : decode cX10_troubled 9 = .ok (.istore_n 2, 1) := by decide +kernel
theorem dX10_troubled_10 : decode cX10_troubled 10 = .ok (.iconst 0, 1) := by decide +kernel
theorem dX10_troubled_11 : decode cX10_troubled 11 = .ok (.istore_n 3, 1) := by decide +kernel
theorem dX10_troubled_12 : decode cX10_troubled 12 = .ok (.iload_n 3, 1) := by decide +kernel
theorem dX10_troubled_13 : decode cX10_troubled 13 = .ok (.aload_n 1, 1) := by decide +kernel
theorem dX10_troubled_14 : decode cX10_troubled 14 = .ok (.getfield 115, 3) := by decide +kernel
theorem dX10_troubled_17 : decode cX10_troubled 17 = .ok (.if_icmp .ge 65, 3) := by decide +kernel
theorem dX10_troubled_20 : decode cX10_troubled 20 = .ok (.aload_n 1, 1) := by decide +kernel
theorem dX10_troubled_21 : decode cX10_troubled 21 = .ok (.getfield 142, 3) := by decide +kernel
theorem dX10_troubled_24 : decode cX10_troubled 24 = .ok (.iload_n 3, 1) := by decide +kernel
theorem dX10_troubled_25 : decode cX10_troubled 25 = .ok (.aaload, 1) := by decide +kernel
theorem dX10_troubled_26 : decode cX10_troubled 26 = .ok (.astore 4, 2) := by decide +kernel
theorem dX10_troubled_28 : decode cX10_troubled 28 = .ok (.aload 4, 2) := by decide +kernel
theorem dX10_troubled_30 : decode cX10_troubled 30 = .ok (.getfield 154, 3) := by decide +kernel
theorem dX10_troubled_33 : decode cX10_troubled 33 = .ok (.ifCond .eq 43, 3) := by decide +kernel
theorem dX10_troubled_36 : decode cX10_troubled 36 = .ok (.aload_n 0, 1) := by decide +kernel
theorem dX10_troubled_37 : decode cX10_troubled 37 = .ok (.getfield 38, 3) := by decide +kernel
theorem dX10_troubled_40 : decode cX10_troubled 40 = .ok (.aload_n 1, 1) := by decide +kernel
theorem dX10_troubled_41 : decode cX10_troubled 41 = .ok (.iload_n 3, 1) := by decide +kernel
theorem dX10_troubled_42 : decode cX10_troubled 42 = .ok (.invokevirtual 135, 3) := by decide +kernel
theorem dX10_troubled_45 : decode cX10_troubled 45 = .ok (.aload_n 0, 1) := by decide +kernel
theorem dX10_troubled_46 : decode cX10_troubled 46 = .ok (.getfield 38, 3) := by decide +kernel
theorem dX10_troubled_49 : decode cX10_troubled 49 = .ok (.aload 4, 2) := by decide +kernel
theorem dX10_troubled_51 : decode cX10_troubled 51 = .ok (.getfield 260, 3) := by decide +kernel
theorem dX10_troubled_54 : decode cX10_troubled 54 = .ok (.aload 4, 2) := by decide +kernel
theorem dX10_troubled_56 : decode cX10_troubled 56 = .ok (.getfield 263, 3) := by decide +kernel
theorem dX10_troubled_59 : decode cX10_troubled 59 = .ok (.aload 4, 2) := by decide +kernel
theorem dX10_troubled_61 : decode cX10_troubled 61 = .ok (.getfield 266, 3) := by decide +kernel
theorem dX10_troubled_64 : decode cX10_troubled 64 = .ok (.invokestatic 131, 3) := by decide +kernel
theorem dX10_troubled_67 : decode cX10_troubled 67 = .ok (.invokevirtual 139, 3) := by decide +kernel
theorem dX10_troubled_70 : decode cX10_troubled 70 = .ok (.ifCond .eq 6, 3) := by decide +kernel
theorem dX10_troubled_73 : decode cX10_troubled 73 = .ok (.iinc 2 1, 3) := by decide +kernel
theorem dX10_troubled_76 : decode cX10_troubled 76 = .ok (.iinc 3 1, 3) := by decide +kernel
theorem dX10_troubled_79 : decode cX10_troubled 79 = .ok (.goto (-67), 3) := by decide +kernel
theorem dX10_troubled_82 : decode cX10_troubled 82 = .ok (.iload_n 2, 1) := by decide +kernel
theorem dX10_troubled_83 : decode cX10_troubled 83 = .ok (.ireturn, 1) := by decide +kernel
theorem dX10_floatAll_0 : decode cX10_floatAll 0 = .ok (.aload_n 0, 1) := by decide +kernel
theorem dX10_floatAll_1 : decode cX10_floatAll 1 = .ok (.getfield 12, 3) := by decide +kernel
theorem dX10_floatAll_4 : decode cX10_floatAll 4 = .ok (.getfield 53, 3) := by decide +kernel
theorem dX10_floatAll_7 : decode cX10_floatAll 7 = .ok (.astore_n 1, 1) := by decide +kernel
theorem dX10_floatAll_8 : decode cX10_floatAll 8 = .ok (.aload_n 0, 1) := by decide +kernel
theorem dX10_floatAll_9 : decode cX10_floatAll 9 = .ok (.invokevirtual 71, 3) := by decide +kernel
theorem dX10_floatAll_12 : decode cX10_floatAll 12 = .ok (.iconst 0, 1) := by decide +kernel
theorem dX10_floatAll_13 : decode cX10_floatAll 13 = .ok (.istore_n 2, 1) := by decide +kernel
theorem dX10_floatAll_14 : decode cX10_floatAll 14 = .ok (.iconst 0, 1) := by decide +kernel
theorem dX10_floatAll_15 : decode cX10_floatAll 15 = .ok (.istore_n 3, 1) := by decide +kernel
theorem dX10_floatAll_16 : decode cX10_floatAll 16 = .ok (.iload_n 3, 1) := by decide +kernel
theorem dX10_floatAll_17 : decode cX10_floatAll 17 = .ok (.aload_n 1, 1) := by decide +kernel
theorem dX10_floatAll_18 : decode cX10_floatAll 18 = .ok (.getfield 115, 3) := by decide +kernel
theorem dX10_floatAll_21 : decode cX10_floatAll 21 = .ok (.if_icmp .ge 61, 3) := by decide +kernel
theorem dX10_floatAll_24 : decode cX10_floatAll 24 = .ok (.aload_n 1, 1) := by decide +kernel
theorem dX10_floatAll_25 : decode cX10_floatAll 25 = .ok (.getfield 142, 3) := by decide +kernel
theorem dX10_floatAll_28 : decode cX10_floatAll 28 = .ok (.iload_n 3, 1) := by decide +kernel
theorem dX10_floatAll_29 : decode cX10_floatAll 29 = .ok (.aaload, 1) := by decide +kernel
theorem dX10_floatAll_30 : decode cX10_floatAll 30 = .ok (.astore 4, 2) := by decide +kernel
theorem dX10_floatAll_32 : decode cX10_floatAll 32 = .ok (.aload 4, 2) := by decide +kernel
theorem dX10_floatAll_34 : decode cX10_floatAll 34 = .ok (.getfield 154, 3) := by decide +kernel
theorem dX10_floatAll_37 : decode cX10_floatAll 37 = .ok (.ifCond .ne 39, 3) := by decide +kernel
theorem dX10_floatAll_40 : decode cX10_floatAll 40 = .ok (.aload_n 0, 1) := by decide +kernel
theorem dX10_floatAll_41 : decode cX10_floatAll 41 = .ok (.getfield 38, 3) := by decide +kernel
theorem dX10_floatAll_44 : decode cX10_floatAll 44 = .ok (.aload_n 1, 1) := by decide +kernel
theorem dX10_floatAll_45 : decode cX10_floatAll 45 = .ok (.iload_n 3, 1) := by decide +kernel
theorem dX10_floatAll_46 : decode cX10_floatAll 46 = .ok (.invokevirtual 157, 3) := by decide +kernel
theorem dX10_floatAll_49 : decode cX10_floatAll 49 = .ok (.aload_n 0, 1) := by decide +kernel
theorem dX10_floatAll_50 : decode cX10_floatAll 50 = .ok (.getfield 38, 3) := by decide +kernel
theorem dX10_floatAll_53 : decode cX10_floatAll 53 = .ok (.getfield 160, 3) := by decide +kernel
theorem dX10_floatAll_56 : decode cX10_floatAll 56 = .ok (.bipush (-99), 2) := by decide +kernel
theorem dX10_floatAll_58 : decode cX10_floatAll 58 = .ok (.if_icmp .eq 18, 3) := by decide +kernel
theorem dX10_floatAll_61 : decode cX10_floatAll 61 = .ok (.aload 4, 2) := by decide +kernel
theorem dX10_floatAll_63 : decode cX10_floatAll 63 = .ok (.aload_n 0, 1) := by decide +kernel
theorem dX10_floatAll_64 : decode cX10_floatAll 64 = .ok (.getfield 38, 3) := by decide +kernel
theorem dX10_floatAll_67 : decode cX10_floatAll 67 = .ok (.getfield 160, 3) := by decide +kernel
theorem dX10_floatAll_70 : decode cX10_floatAll 70 = .ok (.invokevirtual 146, 3) := by decide +kernel
theorem dX10_floatAll_73 : decode cX10_floatAll 73 = .ok (.iinc 2 1, 3) := by decide +kernel
theorem dX10_floatAll_76 : decode cX10_floatAll 76 = .ok (.iinc 3 1, 3) := by decide +kernel
theorem dX10_floatAll_79 : decode cX10_floatAll 79 = .ok (.goto (-63), 3) := by decide +kernel
theorem dX10_floatAll_82 : decode cX10_floatAll 82 = .ok (.iload_n 2, 1) := by decide +kernel
theorem dX10_floatAll_83 : decode cX10_floatAll 83 = .ok (.ireturn, 1) := by decide +kernel
theorem dX10_load_0 : decode cX10_load 0 = .ok (.aload_n 0, 1) := by decide +kernel
theorem dX10_load_1 : decode cX10_load 1 = .ok (.getfield 26, 3) := by decide +kernel
theorem dX10_load_4 : decode cX10_load 4 = .ok (.aload_n 0, 1) := by decide +kernel
theorem dX10_load_5 : decode cX10_load 5 = .ok (.getfield 12, 3) := by decide +kernel
theorem dX10_load_8 : decode cX10_load 8 = .ok (.getfield 53, 3) := by decide +kernel
theorem dX10_load_11 : decode cX10_load 11 = .ok (.invokevirtual 195, 3) := by decide +kernel
theorem dX10_load_14 : decode cX10_load 14 = .ok (.aload_n 0, 1) := by decide +kernel
theorem dX10_load_15 : decode cX10_load 15 = .ok (.getfield 26, 3) := by decide +kernel
theorem dX10_load_18 : decode cX10_load 18 = .ok (.invokevirtual 198, 3) := by decide +kernel
theorem dX10_load_21 : decode cX10_load 21 = .ok (.ifCond .eq 15, 3) := by decide +kernel
theorem dX10_load_24 : decode cX10_load 24 = .ok (.sipush (-1000), 3) := by decide +kernel
theorem dX10_load_27 : decode cX10_load 27 = .ok (.aload_n 0, 1) := by decide +kernel
theorem dX10_load_28 : decode cX10_load 28 = .ok (.getfield 26, 3) := by decide +kernel
theorem dX10_load_31 : decode cX10_load 31 = .ok (.getfield 202, 3) := by decide +kernel
theorem dX10_load_34 : decode cX10_load 34 = .ok (.isub, 1) := by decide +kernel
theorem dX10_load_35 : decode cX10_load 35 = .ok (.ireturn, 1) := by decide +kernel
theorem dX10_load_36 : decode cX10_load 36 = .ok (.aload_n 0, 1) := by decide +kernel
theorem dX10_load_37 : decode cX10_load 37 = .ok (.invokevirtual 71, 3) := by decide +kernel
theorem dX10_load_40 : decode cX10_load 40 = .ok (.aload_n 0, 1) := by decide +kernel
theorem dX10_load_41 : decode cX10_load 41 = .ok (.getfield 12, 3) := by decide +kernel
theorem dX10_load_44 : decode cX10_load 44 = .ok (.getfield 53, 3) := by decide +kernel
theorem dX10_load_47 : decode cX10_load 47 = .ok (.aload_n 0, 1) := by decide +kernel
theorem dX10_load_48 : decode cX10_load 48 = .ok (.getfield 26, 3) := by decide +kernel
theorem dX10_load_51 : decode cX10_load 51 = .ok (.getfield 205, 3) := by decide +kernel
theorem dX10_load_54 : decode cX10_load 54 = .ok (.invokevirtual 171, 3) := by decide +kernel
theorem dX10_load_57 : decode cX10_load 57 = .ok (.aload_n 0, 1) := by decide +kernel
theorem dX10_load_58 : decode cX10_load 58 = .ok (.getfield 34, 3) := by decide +kernel
theorem dX10_load_61 : decode cX10_load 61 = .ok (.iconst 0, 1) := by decide +kernel
theorem dX10_load_62 : decode cX10_load 62 = .ok (.putfield 189, 3) := by decide +kernel
theorem dX10_load_65 : decode cX10_load 65 = .ok (.aload_n 0, 1) := by decide +kernel
theorem dX10_load_66 : decode cX10_load 66 = .ok (.getfield 26, 3) := by decide +kernel
theorem dX10_load_69 : decode cX10_load 69 = .ok (.getfield 208, 3) := by decide +kernel
theorem dX10_load_72 : decode cX10_load 72 = .ok (.ireturn, 1) := by decide +kernel
theorem dX10_bestPlace_0 : decode cX10_bestPlace 0 = .ok (.aload_n 0, 1) := by decide +kernel
theorem dX10_bestPlace_1 : decode cX10_bestPlace 1 = .ok (.getfield 12, 3) := by decide +kernel
theorem dX10_bestPlace_4 : decode cX10_bestPlace 4 = .ok (.getfield 53, 3) := by decide +kernel
theorem dX10_bestPlace_7 : decode cX10_bestPlace 7 = .ok (.iload_n 1, 1) := by decide +kernel
theorem dX10_bestPlace_8 : decode cX10_bestPlace 8 = .ok (.invokevirtual 122, 3) := by decide +kernel
theorem dX10_bestPlace_11 : decode cX10_bestPlace 11 = .ok (.ifCond .eq 12, 3) := by decide +kernel
theorem dX10_bestPlace_14 : decode cX10_bestPlace 14 = .ok (.iload_n 2, 1) := by decide +kernel
theorem dX10_bestPlace_15 : decode cX10_bestPlace 15 = .ok (.iconst 0, 1) := by decide +kernel
theorem dX10_bestPlace_16 : decode cX10_bestPlace 16 = .ok (.iconst 1, 1) := by decide +kernel
theorem dX10_bestPlace_17 : decode cX10_bestPlace 17 = .ok (.invokestatic 61, 3) := by decide +kernel
theorem dX10_bestPlace_20 : decode cX10_bestPlace 20 = .ok (.ifCond .ne 5, 3) := by decide +kernel
theorem dX10_bestPlace_23 : decode cX10_bestPlace 23 = .ok (.iconst (-1), 1) := by decide +kernel
theorem dX10_bestPlace_24 : decode cX10_bestPlace 24 = .ok (.ireturn, 1) := by decide +kernel
theorem dX10_bestPlace_25 : decode cX10_bestPlace 25 = .ok (.aload_n 0, 1) := by decide +kernel
theorem dX10_bestPlace_26 : decode cX10_bestPlace 26 = .ok (.getfield 38, 3) := by decide +kernel
theorem dX10_bestPlace_29 : decode cX10_bestPlace 29 = .ok (.aload_n 0, 1) := by decide +kernel
theorem dX10_bestPlace_30 : decode cX10_bestPlace 30 = .ok (.getfield 12, 3) := by decide +kernel
theorem dX10_bestPlace_33 : decode cX10_bestPlace 33 = .ok (.getfield 53, 3) := by decide +kernel
theorem dX10_bestPlace_36 : decode cX10_bestPlace 36 = .ok (.iload_n 1, 1) := by decide +kernel
theorem dX10_bestPlace_37 : decode cX10_bestPlace 37 = .ok (.invokevirtual 157, 3) := by decide +kernel
theorem dX10_bestPlace_40 : decode cX10_bestPlace 40 = .ok (.iload_n 2, 1) := by decide +kernel
theorem dX10_bestPlace_41 : decode cX10_bestPlace 41 = .ok (.ifCond .ne 13, 3) := by decide +kernel
theorem dX10_bestPlace_44 : decode cX10_bestPlace 44 = .ok (.aload_n 0, 1) := by decide +kernel
theorem dX10_bestPlace_45 : decode cX10_bestPlace 45 = .ok (.getfield 38, 3) := by decide +kernel
theorem dX10_bestPlace_48 : decode cX10_bestPlace 48 = .ok (.getfield 160, 3) := by decide +kernel
theorem dX10_bestPlace_51 : decode cX10_bestPlace 51 = .ok (.goto 10, 3) := by decide +kernel
theorem dX10_bestPlace_54 : decode cX10_bestPlace 54 = .ok (.aload_n 0, 1) := by decide +kernel
theorem dX10_bestPlace_55 : decode cX10_bestPlace 55 = .ok (.getfield 38, 3) := by decide +kernel
theorem dX10_bestPlace_58 : decode cX10_bestPlace 58 = .ok (.getfield 279, 3) := by decide +kernel
theorem dX10_bestPlace_61 : decode cX10_bestPlace 61 = .ok (.ireturn, 1) := by decide +kernel
theorem dL_isRight_0 : decode cL_isRight 0 = .ok (.aload_n 0, 1) := by decide +kernel
theorem dL_isRight_1 : decode cL_isRight 1 = .ok (.iconst 0, 1) := by decide +kernel
theorem dL_isRight_2 : decode cL_isRight 2 = .ok (.invokevirtual 12, 3) := by decide +kernel
theorem dL_isRight_5 : decode cL_isRight 5 = .ok (.istore_n 2, 1) := by decide +kernel
theorem dL_isRight_6 : decode cL_isRight 6 = .ok (.iconst 0, 1) := by decide +kernel
theorem dL_isRight_7 : decode cL_isRight 7 = .ok (.istore_n 3, 1) := by decide +kernel
theorem dL_isRight_8 : decode cL_isRight 8 = .ok (.iconst 0, 1) := by decide +kernel
theorem dL_isRight_9 : decode cL_isRight 9 = .ok (.istore 4, 2) := by decide +kernel
theorem dL_isRight_11 : decode cL_isRight 11 = .ok (.iconst 0, 1) := by decide +kernel
theorem dL_isRight_12 : decode cL_isRight 12 = .ok (.istore 5, 2) := by decide +kernel
theorem dL_isRight_14 : decode cL_isRight 14 = .ok (.iconst 0, 1) := by decide +kernel
theorem dL_isRight_15 : decode cL_isRight 15 = .ok (.istore 6, 2) := by decide +kernel
theorem dL_isRight_17 : decode cL_isRight 17 = .ok (.iload 6, 2) := by decide +kernel
theorem dL_isRight_19 : decode cL_isRight 19 = .ok (.iload_n 2, 1) := by decide +kernel
theorem dL_isRight_20 : decode cL_isRight 20 = .ok (.if_icmp .ge 218, 3) := by decide +kernel
theorem dL_isRight_23 : decode cL_isRight 23 = .ok (.aload_n 0, 1) := by decide +kernel
theorem dL_isRight_24 : decode cL_isRight 24 = .ok (.iload 6, 2) := by decide +kernel
theorem dL_isRight_26 : decode cL_isRight 26 = .ok (.iconst 1, 1) := by decide +kernel
theorem dL_isRight_27 : decode cL_isRight 27 = .ok (.invokevirtual 18, 3) := by decide +kernel
theorem dL_isRight_30 : decode cL_isRight 30 = .ok (.aload_n 0, 1) := by decide +kernel
theorem dL_isRight_31 : decode cL_isRight 31 = .ok (.iload 6, 2) := by decide +kernel
theorem dL_isRight_33 : decode cL_isRight 33 = .ok (.iconst 3, 1) := by decide +kernel
theorem dL_isRight_34 : decode cL_isRight 34 = .ok (.invokevirtual 18, 3) := by decide +kernel
theorem dL_isRight_37 : decode cL_isRight 37 = .ok (.isub, 1) := by decide +kernel
theorem dL_isRight_38 : decode cL_isRight 38 = .ok (.istore 7, 2) := by decide +kernel
theorem dL_isRight_40 : decode cL_isRight 40 = .ok (.aload_n 0, 1) := by decide +kernel
theorem dL_isRight_41 : decode cL_isRight 41 = .ok (.iload 6, 2) := by decide +kernel
theorem dL_isRight_43 : decode cL_isRight 43 = .ok (.iconst 0, 1) := by decide +kernel
theorem dL_isRight_44 : decode cL_isRight 44 = .ok (.invokevirtual 18, 3) := by decide +kernel
theorem dL_isRight_47 : decode cL_isRight 47 = .ok (.iconst 1, 1) := by decide +kernel
theorem dL_isRight_48 : decode cL_isRight 48 = .ok (.isub, 1) := by decide +kernel
theorem dL_isRight_49 : decode cL_isRight 49 = .ok (.istore 8, 2) := by decide +kernel
theorem dL_isRight_51 : decode cL_isRight 51 = .ok (.iconst 0, 1) := by decide +kernel
theorem dL_isRight_52 : decode cL_isRight 52 = .ok (.istore 9, 2) := by decide +kernel
theorem dL_isRight_54 : decode cL_isRight 54 = .ok (.iload 9, 2) := by decide +kernel
theorem dL_isRight_56 : decode cL_isRight 56 = .ok (.iload 7, 2) := by decide +kernel
theorem dL_isRight_58 : decode cL_isRight 58 = .ok (.if_icmp .ge 53, 3) := by decide +kernel
theorem dL_isRight_61 : decode cL_isRight 61 = .ok (.aload_n 0, 1) := by decide +kernel
theorem dL_isRight_62 : decode cL_isRight 62 = .ok (.iload 6, 2) := by decide +kernel
theorem dL_isRight_64 : decode cL_isRight 64 = .ok (.iload 9, 2) := by decide +kernel
theorem dL_isRight_66 : decode cL_isRight 66 = .ok (.invokevirtual 72, 3) := by decide +kernel
theorem dL_isRight_69 : decode cL_isRight 69 = .ok (.istore 10, 2) := by decide +kernel
theorem dL_isRight_71 : decode cL_isRight 71 = .ok (.iload 10, 2) := by decide +kernel
theorem dL_isRight_73 : decode cL_isRight 73 = .ok (.iload 8, 2) := by decide +kernel
theorem dL_isRight_75 : decode cL_isRight 75 = .ok (.if_icmp .le 24, 3) := by decide +kernel
theorem dL_isRight_78 : decode cL_isRight 78 = .ok (.iload 9, 2) := by decide +kernel
theorem dL_isRight_80 : decode cL_isRight 80 = .ok (.bipush 40, 2) := by decide +kernel
theorem dL_isRight_82 : decode cL_isRight 82 = .ok (.irem, 1) := by decide +kernel
theorem dL_isRight_83 : decode cL_isRight 83 = .ok (.ifCond .ne 18, 3) := by decide +kernel
theorem dL_isRight_86 : decode cL_isRight 86 = .ok (.aload_n 0, 1) := by decide +kernel
theorem dL_isRight_87 : decode cL_isRight 87 = .ok (.iload 10, 2) := by decide +kernel
theorem dL_isRight_89 : decode cL_isRight 89 = .ok (.invokevirtual 75, 3) := by decide +kernel
theorem dL_isRight_92 : decode cL_isRight 92 = .ok (.iconst 1, 1) := by decide +kernel
theorem dL_isRight_93 : decode cL_isRight 93 = .ok (.iload 6, 2) := by decide +kernel
theorem dL_isRight_95 : decode cL_isRight 95 = .ok (.iadd, 1) := by decide +kernel
theorem dL_isRight_96 : decode cL_isRight 96 = .ok (.if_icmp .eq 5, 3) := by decide +kernel
theorem dL_isRight_99 : decode cL_isRight 99 = .ok (.iconst 0, 1) := by decide +kernel
theorem dL_isRight_100 : decode cL_isRight 100 = .ok (.ireturn, 1) := by decide +kernel
theorem dL_isRight_101 : decode cL_isRight 101 = .ok (.iload 10, 2) := by decide +kernel
theorem dL_isRight_103 : decode cL_isRight 103 = .ok (.istore 8, 2) := by decide +kernel
theorem dL_isRight_105 : decode cL_isRight 105 = .ok (.iinc 9 1, 3) := by decide +kernel
theorem dL_isRight_108 : decode cL_isRight 108 = .ok (.goto (-54), 3) := by decide +kernel
theorem dL_isRight_111 : decode cL_isRight 111 = .ok (.iload 7, 2) := by decide +kernel
theorem dL_isRight_113 : decode cL_isRight 113 = .ok (.ifCond .lt 80, 3) := by decide +kernel
theorem dL_isRight_116 : decode cL_isRight 116 = .ok (.iload 7, 2) := by decide +kernel
theorem dL_isRight_118 : decode cL_isRight 118 = .ok (.ifCond .le 33, 3) := by decide +kernel
theorem dL_isRight_121 : decode cL_isRight 121 = .ok (.aload_n 0, 1) := by decide +kernel
theorem dL_isRight_122 : decode cL_isRight 122 = .ok (.iload 6, 2) := by decide +kernel
theorem dL_isRight_124 : decode cL_isRight 124 = .ok (.bipush 6, 2) := by decide +kernel
theorem dL_isRight_126 : decode cL_isRight 126 = .ok (.invokevirtual 18, 3) := by decide +kernel
theorem dL_isRight_129 : decode cL_isRight 129 = .ok (.iload 8, 2) := by decide +kernel
theorem dL_isRight_131 : decode cL_isRight 131 = .ok (.if_icmp .ne 62, 3) := by decide +kernel
theorem dL_isRight_134 : decode cL_isRight 134 = .ok (.aload_n 0, 1) := by decide +kernel
theorem dL_isRight_135 : decode cL_isRight 135 = .ok (.iload 6, 2) := by decide +kernel
theorem dL_isRight_137 : decode cL_isRight 137 = .ok (.iconst 5, 1) := by decide +kernel
theorem dL_isRight_138 : decode cL_isRight 138 = .ok (.invokevirtual 18, 3) := by decide +kernel
theorem dL_isRight_141 : decode cL_isRight 141 = .ok (.aload_n 0, 1) := by decide +kernel
theorem dL_isRight_142 : decode cL_isRight 142 = .ok (.iload 6, 2) := by decide +kernel
theorem dL_isRight_144 : decode cL_isRight 144 = .ok (.iconst 0, 1) := by decide +kernel
theorem dL_isRight_145 : decode cL_isRight 145 = .ok (.invokevirtual 72, 3) := by decide +kernel
theorem dL_isRight_148 : decode cL_isRight 148 = .ok (.if_icmp .ne 45, 3) := by decide +kernel
theorem dL_isRight_151 : decode cL_isRight 151 = .ok (.iload 7, 2) := by decide +kernel
theorem dL_isRight_153 : decode cL_isRight 153 = .ok (.ifCond .ne 15, 3) := by decide +kernel
theorem dL_isRight_156 : decode cL_isRight 156 = .ok (.aload_n 0, 1) := by decide +kernel
theorem dL_isRight_157 : decode cL_isRight 157 = .ok (.iload 6, 2) := by decide +kernel
theorem dL_isRight_159 : decode cL_isRight 159 = .ok (.iconst 5, 1) := by decide +kernel
theorem dL_isRight_160 : decode cL_isRight 160 = .ok (.invokevirtual 18, 3) := by decide +kernel
theorem dL_isRight_163 : decode cL_isRight 163 = .ok (.bipush (-99), 2) := by decide +kernel
theorem dL_isRight_165 : decode cL_isRight 165 = .ok (.if_icmp .ne 28, 3) := by decide +kernel
theorem dL_isRight_168 : decode cL_isRight 168 = .ok (.iload 7, 2) := by decide +kernel
theorem dL_isRight_170 : decode cL_isRight 170 = .ok (.aload_n 0, 1) := by decide +kernel
theorem dL_isRight_171 : decode cL_isRight 171 = .ok (.iload 6, 2) := by decide +kernel
theorem dL_isRight_173 : decode cL_isRight 173 = .ok (.iconst 1, 1) := by decide +kernel
theorem dL_isRight_174 : decode cL_isRight 174 = .ok (.invokevirtual 18, 3) := by decide +kernel
theorem dL_isRight_177 : decode cL_isRight 177 = .ok (.if_icmp .ge 18, 3) := by decide +kernel
theorem dL_isRight_180 : decode cL_isRight 180 = .ok (.aload_n 0, 1) := by decide +kernel
theorem dL_isRight_181 : decode cL_isRight 181 = .ok (.iload 6, 2) := by decide +kernel
theorem dL_isRight_183 : decode cL_isRight 183 = .ok (.iload 7, 2) := by decide +kernel
theorem dL_isRight_185 : decode cL_isRight 185 = .ok (.invokevirtual 72, 3) := by decide +kernel
theorem dL_isRight_188 : decode cL_isRight 188 = .ok (.bipush (-99), 2) := by decide +kernel
theorem dL_isRight_190 : decode cL_isRight 190 = .ok (.if_icmp .eq 5, 3) := by decide +kernel
theorem dL_isRight_193 : decode cL_isRight 193 = .ok (.iconst 0, 1) := by decide +kernel
theorem dL_isRight_194 : decode cL_isRight 194 = .ok (.ireturn, 1) := by decide +kernel
theorem dL_isRight_195 : decode cL_isRight 195 = .ok (.iload_n 3, 1) := by decide +kernel
theorem dL_isRight_196 : decode cL_isRight 196 = .ok (.iload 7, 2) := by decide +kernel
theorem dL_isRight_198 : decode cL_isRight 198 = .ok (.aload_n 0, 1) := by decide +kernel
theorem dL_isRight_199 : decode cL_isRight 199 = .ok (.iload 6, 2) := by decide +kernel
theorem dL_isRight_201 : decode cL_isRight 201 = .ok (.iconst 4, 1) := by decide +kernel
theorem dL_isRight_202 : decode cL_isRight 202 = .ok (.invokevirtual 18, 3) := by decide +kernel
theorem dL_isRight_205 : decode cL_isRight 205 = .ok (.iadd, 1) := by decide +kernel
theorem dL_isRight_206 : decode cL_isRight 206 = .ok (.iadd, 1) := by decide +kernel
theorem dL_isRight_207 : decode cL_isRight 207 = .ok (.istore_n 3, 1) := by decide +kernel
theorem dL_isRight_208 : decode cL_isRight 208 = .ok (.iload 4, 2) := by decide +kernel
theorem dL_isRight_210 : decode cL_isRight 210 = .ok (.aload_n 0, 1) := by decide +kernel
theorem dL_isRight_211 : decode cL_isRight 211 = .ok (.iload 6, 2) := by decide +kernel
theorem dL_isRight_213 : decode cL_isRight 213 = .ok (.iconst 3, 1) := by decide +kernel
theorem dL_isRight_214 : decode cL_isRight 214 = .ok (.invokevirtual 18, 3) := by decide +kernel
theorem dL_isRight_217 : decode cL_isRight 217 = .ok (.iadd, 1) := by decide +kernel
theorem dL_isRight_218 : decode cL_isRight 218 = .ok (.istore 4, 2) := by decide +kernel
theorem dL_isRight_220 : decode cL_isRight 220 = .ok (.iload 5, 2) := by decide +kernel
theorem dL_isRight_222 : decode cL_isRight 222 = .ok (.aload_n 0, 1) := by decide +kernel
theorem dL_isRight_223 : decode cL_isRight 223 = .ok (.iload 6, 2) := by decide +kernel
theorem dL_isRight_225 : decode cL_isRight 225 = .ok (.iconst 4, 1) := by decide +kernel
theorem dL_isRight_226 : decode cL_isRight 226 = .ok (.invokevirtual 18, 3) := by decide +kernel
theorem dL_isRight_229 : decode cL_isRight 229 = .ok (.iadd, 1) := by decide +kernel
theorem dL_isRight_230 : decode cL_isRight 230 = .ok (.istore 5, 2) := by decide +kernel
theorem dL_isRight_232 : decode cL_isRight 232 = .ok (.iinc 6 1, 3) := by decide +kernel
theorem dL_isRight_235 : decode cL_isRight 235 = .ok (.goto (-218), 3) := by decide +kernel
theorem dL_isRight_238 : decode cL_isRight 238 = .ok (.iconst 0, 1) := by decide +kernel
theorem dL_isRight_239 : decode cL_isRight 239 = .ok (.istore 6, 2) := by decide +kernel
theorem dL_isRight_241 : decode cL_isRight 241 = .ok (.iconst 0, 1) := by decide +kernel
theorem dL_isRight_242 : decode cL_isRight 242 = .ok (.istore 7, 2) := by decide +kernel
theorem dL_isRight_244 : decode cL_isRight 244 = .ok (.iconst 0, 1) := by decide +kernel
theorem dL_isRight_245 : decode cL_isRight 245 = .ok (.istore 8, 2) := by decide +kernel
theorem dL_isRight_247 : decode cL_isRight 247 = .ok (.iload 8, 2) := by decide +kernel
theorem dL_isRight_249 : decode cL_isRight 249 = .ok (.aload_n 0, 1) := by decide +kernel
theorem dL_isRight_250 : decode cL_isRight 250 = .ok (.iconst 1, 1) := by decide +kernel
theorem dL_isRight_251 : decode cL_isRight 251 = .ok (.invokevirtual 12, 3) := by decide +kernel
theorem dL_isRight_254 : decode cL_isRight 254 = .ok (.if_icmp .ge 230, 3) := by decide +kernel
theorem dL_isRight_257 : decode cL_isRight 257 = .ok (.aload_n 0, 1) := by decide +kernel
theorem dL_isRight_258 : decode cL_isRight 258 = .ok (.iload 8, 2) := by decide +kernel
theorem dL_isRight_260 : decode cL_isRight 260 = .ok (.iconst 4, 1) := by decide +kernel
theorem dL_isRight_261 : decode cL_isRight 261 = .ok (.invokevirtual 26, 3) := by decide +kernel
theorem dL_isRight_264 : decode cL_isRight 264 = .ok (.ifCond .lt 7, 3) := by decide +kernel
theorem dL_isRight_267 : decode cL_isRight 267 = .ok (.iconst 1, 1) := by decide +kernel
theorem dL_isRight_268 : decode cL_isRight 268 = .ok (.goto 4, 3) := by decide +kernel
theorem dL_isRight_271 : decode cL_isRight 271 = .ok (.iconst 0, 1) := by decide +kernel
theorem dL_isRight_272 : decode cL_isRight 272 = .ok (.istore 9, 2) := by decide +kernel
theorem dL_isRight_274 : decode cL_isRight 274 = .ok (.iload 6, 2) := by decide +kernel
theorem dL_isRight_276 : decode cL_isRight 276 = .ok (.iload 9, 2) := by decide +kernel
theorem dL_isRight_278 : decode cL_isRight 278 = .ok (.ifCond .eq 7, 3) := by decide +kernel
theorem dL_isRight_281 : decode cL_isRight 281 = .ok (.iconst 1, 1) := by decide +kernel
theorem dL_isRight_282 : decode cL_isRight 282 = .ok (.goto 4, 3) := by decide +kernel
theorem dL_isRight_285 : decode cL_isRight 285 = .ok (.iconst 0, 1) := by decide +kernel
theorem dL_isRight_286 : decode cL_isRight 286 = .ok (.iadd, 1) := by decide +kernel
theorem dL_isRight_287 : decode cL_isRight 287 = .ok (.istore 6, 2) := by decide +kernel
theorem dL_isRight_289 : decode cL_isRight 289 = .ok (.iload_n 3, 1) := by decide +kernel
theorem dL_isRight_290 : decode cL_isRight 290 = .ok (.iload 9, 2) := by decide +kernel
theorem dL_isRight_292 : decode cL_isRight 292 = .ok (.ifCond .eq 21, 3) := by decide +kernel
theorem dL_isRight_295 : decode cL_isRight 295 = .ok (.aload_n 0, 1) := by decide +kernel
theorem dL_isRight_296 : decode cL_isRight 296 = .ok (.iload 8, 2) := by decide +kernel
theorem dL_isRight_298 : decode cL_isRight 298 = .ok (.iconst 2, 1) := by decide +kernel
theorem dL_isRight_299 : decode cL_isRight 299 = .ok (.invokevirtual 26, 3) := by decide +kernel
theorem dL_isRight_302 : decode cL_isRight 302 = .ok (.aload_n 0, 1) := by decide +kernel
theorem dL_isRight_303 : decode cL_isRight 303 = .ok (.iload 8, 2) := by decide +kernel
theorem dL_isRight_305 : decode cL_isRight 305 = .ok (.iconst 3, 1) := by decide +kernel
theorem dL_isRight_306 : decode cL_isRight 306 = .ok (.invokevirtual 26, 3) := by decide +kernel
theorem dL_isRight_309 : decode cL_isRight 309 = .ok (.imul, 1) := by decide +kernel
theorem dL_isRight_310 : decode cL_isRight 310 = .ok (.goto 4, 3) := by decide +kernel
theorem dL_isRight_313 : decode cL_isRight 313 = .ok (.iconst 0, 1) := by decide +kernel
theorem dL_isRight_314 : decode cL_isRight 314 = .ok (.iadd, 1) := by decide +kernel
theorem dL_isRight_315 : decode cL_isRight 315 = .ok (.istore_n 3, 1) := by decide +kernel
theorem dL_isRight_316 : decode cL_isRight 316 = .ok (.iload 9, 2) := by decide +kernel
theorem dL_isRight_318 : decode cL_isRight 318 = .ok (.ifCond .eq 160, 3) := by decide +kernel
theorem dL_isRight_321 : decode cL_isRight 321 = .ok (.aload_n 0, 1) := by decide +kernel
theorem dL_isRight_322 : decode cL_isRight 322 = .ok (.iload 8, 2) := by decide +kernel
theorem dL_isRight_324 : decode cL_isRight 324 = .ok (.aload_n 0, 1) := by decide +kernel
theorem dL_isRight_325 : decode cL_isRight 325 = .ok (.iload 8, 2) := by decide +kernel
theorem dL_isRight_327 : decode cL_isRight 327 = .ok (.iconst 4, 1) := by decide +kernel
theorem dL_isRight_328 : decode cL_isRight 328 = .ok (.invokevirtual 26, 3) := by decide +kernel
theorem dL_isRight_331 : decode cL_isRight 331 = .ok (.aload_n 0, 1) := by decide +kernel
theorem dL_isRight_332 : decode cL_isRight 332 = .ok (.iload 8, 2) := by decide +kernel
theorem dL_isRight_334 : decode cL_isRight 334 = .ok (.iconst 5, 1) := by decide +kernel
theorem dL_isRight_335 : decode cL_isRight 335 = .ok (.invokevirtual 26, 3) := by decide +kernel
theorem dL_isRight_338 : decode cL_isRight 338 = .ok (.aload_n 0, 1) := by decide +kernel
theorem dL_isRight_339 : decode cL_isRight 339 = .ok (.iload 8, 2) := by decide +kernel
theorem dL_isRight_341 : decode cL_isRight 341 = .ok (.bipush 6, 2) := by decide +kernel
theorem dL_isRight_343 : decode cL_isRight 343 = .ok (.invokevirtual 26, 3) := by decide +kernel
theorem dL_isRight_346 : decode cL_isRight 346 = .ok (.invokevirtual 78, 3) := by decide +kernel
theorem dL_isRight_349 : decode cL_isRight 349 = .ok (.istore 10, 2) := by decide +kernel
theorem dL_isRight_351 : decode cL_isRight 351 = .ok (.iload 7, 2) := by decide +kernel
theorem dL_isRight_353 : decode cL_isRight 353 = .ok (.iload 10, 2) := by decide +kernel
theorem dL_isRight_355 : decode cL_isRight 355 = .ok (.ifCond .le 7, 3) := by decide +kernel
theorem dL_isRight_358 : decode cL_isRight 358 = .ok (.iconst 1, 1) := by decide +kernel
theorem dL_isRight_359 : decode cL_isRight 359 = .ok (.goto 4, 3) := by decide +kernel
theorem dL_isRight_362 : decode cL_isRight 362 = .ok (.iconst 0, 1) := by decide +kernel
theorem dL_isRight_363 : decode cL_isRight 363 = .ok (.iadd, 1) := by decide +kernel
theorem dL_isRight_364 : decode cL_isRight 364 = .ok (.istore 7, 2) := by decide +kernel
theorem dL_isRight_366 : decode cL_isRight 366 = .ok (.bipush 120, 2) := by decide +kernel
theorem dL_isRight_368 : decode cL_isRight 368 = .ok (.aload_n 0, 1) := by decide +kernel
theorem dL_isRight_369 : decode cL_isRight 369 = .ok (.iload 8, 2) := by decide +kernel
theorem dL_isRight_371 : decode cL_isRight 371 = .ok (.iconst 4, 1) := by decide +kernel
theorem dL_isRight_372 : decode cL_isRight 372 = .ok (.invokevirtual 26, 3) := by decide +kernel
theorem dL_isRight_375 : decode cL_isRight 375 = .ok (.imul, 1) := by decide +kernel
theorem dL_isRight_376 : decode cL_isRight 376 = .ok (.bipush 20, 2) := by decide +kernel
theorem dL_isRight_378 : decode cL_isRight 378 = .ok (.aload_n 0, 1) := by decide +kernel
theorem dL_isRight_379 : decode cL_isRight 379 = .ok (.iload 8, 2) := by decide +kernel
theorem dL_isRight_381 : decode cL_isRight 381 = .ok (.iconst 5, 1) := by decide +kernel
theorem dL_isRight_382 : decode cL_isRight 382 = .ok (.invokevirtual 26, 3) := by decide +kernel
theorem dL_isRight_385 : decode cL_isRight 385 = .ok (.imul, 1) := by decide +kernel
theorem dL_isRight_386 : decode cL_isRight 386 = .ok (.iadd, 1) := by decide +kernel
theorem dL_isRight_387 : decode cL_isRight 387 = .ok (.aload_n 0, 1) := by decide +kernel
theorem dL_isRight_388 : decode cL_isRight 388 = .ok (.iload 8, 2) := by decide +kernel
theorem dL_isRight_390 : decode cL_isRight 390 = .ok (.bipush 6, 2) := by decide +kernel
theorem dL_isRight_392 : decode cL_isRight 392 = .ok (.invokevirtual 26, 3) := by decide +kernel
theorem dL_isRight_395 : decode cL_isRight 395 = .ok (.iadd, 1) := by decide +kernel
theorem dL_isRight_396 : decode cL_isRight 396 = .ok (.istore 11, 2) := by decide +kernel
theorem dL_isRight_398 : decode cL_isRight 398 = .ok (.aload_n 0, 1) := by decide +kernel
theorem dL_isRight_399 : decode cL_isRight 399 = .ok (.iload 8, 2) := by decide +kernel
theorem dL_isRight_401 : decode cL_isRight 401 = .ok (.bipush 7, 2) := by decide +kernel
theorem dL_isRight_403 : decode cL_isRight 403 = .ok (.invokevirtual 26, 3) := by decide +kernel
theorem dL_isRight_406 : decode cL_isRight 406 = .ok (.istore 12, 2) := by decide +kernel
theorem dL_isRight_408 : decode cL_isRight 408 = .ok (.iload 12, 2) := by decide +kernel
theorem dL_isRight_410 : decode cL_isRight 410 = .ok (.ifCond .lt 27, 3) := by decide +kernel
theorem dL_isRight_413 : decode cL_isRight 413 = .ok (.iload 12, 2) := by decide +kernel
theorem dL_isRight_415 : decode cL_isRight 415 = .ok (.aload_n 0, 1) := by decide +kernel
theorem dL_isRight_416 : decode cL_isRight 416 = .ok (.iconst 3, 1) := by decide +kernel
theorem dL_isRight_417 : decode cL_isRight 417 = .ok (.invokevirtual 12, 3) := by decide +kernel
theorem dL_isRight_420 : decode cL_isRight 420 = .ok (.if_icmp .lt 13, 3) := by decide +kernel
theorem dL_isRight_423 : decode cL_isRight 423 = .ok (.iload 12, 2) := by decide +kernel
theorem dL_isRight_425 : decode cL_isRight 425 = .ok (.aload_n 0, 1) := by decide +kernel
theorem dL_isRight_426 : decode cL_isRight 426 = .ok (.iconst 4, 1) := by decide +kernel
theorem dL_isRight_427 : decode cL_isRight 427 = .ok (.invokevirtual 12, 3) := by decide +kernel
theorem dL_isRight_430 : decode cL_isRight 430 = .ok (.if_icmp .le 7, 3) := by decide +kernel
theorem dL_isRight_433 : decode cL_isRight 433 = .ok (.iconst 1, 1) := by decide +kernel
theorem dL_isRight_434 : decode cL_isRight 434 = .ok (.goto 4, 3) := by decide +kernel
theorem dL_isRight_437 : decode cL_isRight 437 = .ok (.iconst 0, 1) := by decide +kernel
theorem dL_isRight_438 : decode cL_isRight 438 = .ok (.istore 13, 2) := by decide +kernel
theorem dL_isRight_440 : decode cL_isRight 440 = .ok (.aload_n 0, 1) := by decide +kernel
theorem dL_isRight_441 : decode cL_isRight 441 = .ok (.iload 11, 2) := by decide +kernel
theorem dL_isRight_443 : decode cL_isRight 443 = .ok (.invokevirtual 75, 3) := by decide +kernel
theorem dL_isRight_446 : decode cL_isRight 446 = .ok (.bipush 21, 2) := by decide +kernel
theorem dL_isRight_448 : decode cL_isRight 448 = .ok (.iload 8, 2) := by decide +kernel
theorem dL_isRight_450 : decode cL_isRight 450 = .ok (.iadd, 1) := by decide +kernel
theorem dL_isRight_451 : decode cL_isRight 451 = .ok (.if_icmp .ne 25, 3) := by decide +kernel
theorem dL_isRight_454 : decode cL_isRight 454 = .ok (.iload 13, 2) := by decide +kernel
theorem dL_isRight_456 : decode cL_isRight 456 = .ok (.ifCond .eq 8, 3) := by decide +kernel
theorem dL_isRight_459 : decode cL_isRight 459 = .ok (.iload 10, 2) := by decide +kernel
theorem dL_isRight_461 : decode cL_isRight 461 = .ok (.ifCond .eq 15, 3) := by decide +kernel
theorem dL_isRight_464 : decode cL_isRight 464 = .ok (.iload 12, 2) := by decide +kernel
theorem dL_isRight_466 : decode cL_isRight 466 = .ok (.bipush (-99), 2) := by decide +kernel
theorem dL_isRight_468 : decode cL_isRight 468 = .ok (.if_icmp .eq 10, 3) := by decide +kernel
theorem dL_isRight_471 : decode cL_isRight 471 = .ok (.iload 12, 2) := by decide +kernel
theorem dL_isRight_473 : decode cL_isRight 473 = .ok (.ifCond .ge 5, 3) := by decide +kernel
theorem dL_isRight_476 : decode cL_isRight 476 = .ok (.iconst 0, 1) := by decide +kernel
theorem dL_isRight_477 : decode cL_isRight 477 = .ok (.ireturn, 1) := by decide +kernel
theorem dL_isRight_478 : decode cL_isRight 478 = .ok (.iinc 8 1, 3) := by decide +kernel
theorem dL_isRight_481 : decode cL_isRight 481 = .ok (.goto (-234), 3) := by decide +kernel
theorem dL_isRight_484 : decode cL_isRight 484 = .ok (.iconst 0, 1) := by decide +kernel
theorem dL_isRight_485 : decode cL_isRight 485 = .ok (.istore 8, 2) := by decide +kernel
theorem dL_isRight_487 : decode cL_isRight 487 = .ok (.iconst 0, 1) := by decide +kernel
theorem dL_isRight_488 : decode cL_isRight 488 = .ok (.istore 9, 2) := by decide +kernel
theorem dL_isRight_490 : decode cL_isRight 490 = .ok (.iconst 0, 1) := by decide +kernel
theorem dL_isRight_491 : decode cL_isRight 491 = .ok (.istore 10, 2) := by decide +kernel
theorem dL_isRight_493 : decode cL_isRight 493 = .ok (.iload 10, 2) := by decide +kernel
theorem dL_isRight_495 : decode cL_isRight 495 = .ok (.iconst 3, 1) := by decide +kernel
theorem dL_isRight_496 : decode cL_isRight 496 = .ok (.if_icmp .ge 60, 3) := by decide +kernel
theorem dL_isRight_499 : decode cL_isRight 499 = .ok (.iload 8, 2) := by decide +kernel
theorem dL_isRight_501 : decode cL_isRight 501 = .ok (.aload_n 0, 1) := by decide +kernel
theorem dL_isRight_502 : decode cL_isRight 502 = .ok (.iload 10, 2) := by decide +kernel
theorem dL_isRight_504 : decode cL_isRight 504 = .ok (.iconst 1, 1) := by decide +kernel
theorem dL_isRight_505 : decode cL_isRight 505 = .ok (.invokevirtual 81, 3) := by decide +kernel
theorem dL_isRight_508 : decode cL_isRight 508 = .ok (.aload_n 0, 1) := by decide +kernel
theorem dL_isRight_509 : decode cL_isRight 509 = .ok (.iload 10, 2) := by decide +kernel
theorem dL_isRight_511 : decode cL_isRight 511 = .ok (.iconst 2, 1) := by decide +kernel
theorem dL_isRight_512 : decode cL_isRight 512 = .ok (.invokevirtual 81, 3) := by decide +kernel
theorem dL_isRight_515 : decode cL_isRight 515 = .ok (.iadd, 1) := by decide +kernel
theorem dL_isRight_516 : decode cL_isRight 516 = .ok (.iadd, 1) := by decide +kernel
theorem dL_isRight_517 : decode cL_isRight 517 = .ok (.istore 8, 2) := by decide +kernel
theorem dL_isRight_519 : decode cL_isRight 519 = .ok (.iload 9, 2) := by decide +kernel
theorem dL_isRight_521 : decode cL_isRight 521 = .ok (.aload_n 0, 1) := by decide +kernel
theorem dL_isRight_522 : decode cL_isRight 522 = .ok (.iload 10, 2) := by decide +kernel
theorem dL_isRight_524 : decode cL_isRight 524 = .ok (.iconst 0, 1) := by decide +kernel
theorem dL_isRight_525 : decode cL_isRight 525 = .ok (.invokevirtual 81, 3) := by decide +kernel
theorem dL_isRight_528 : decode cL_isRight 528 = .ok (.iadd, 1) := by decide +kernel
theorem dL_isRight_529 : decode cL_isRight 529 = .ok (.istore 9, 2) := by decide +kernel
theorem dL_isRight_531 : decode cL_isRight 531 = .ok (.aload_n 0, 1) := by decide +kernel
theorem dL_isRight_532 : decode cL_isRight 532 = .ok (.iload 10, 2) := by decide +kernel
theorem dL_isRight_534 : decode cL_isRight 534 = .ok (.iconst 0, 1) := by decide +kernel
theorem dL_isRight_535 : decode cL_isRight 535 = .ok (.invokevirtual 81, 3) := by decide +kernel
theorem dL_isRight_538 : decode cL_isRight 538 = .ok (.aload_n 0, 1) := by decide +kernel
theorem dL_isRight_539 : decode cL_isRight 539 = .ok (.iload 10, 2) := by decide +kernel
theorem dL_isRight_541 : decode cL_isRight 541 = .ok (.iconst 1, 1) := by decide +kernel
theorem dL_isRight_542 : decode cL_isRight 542 = .ok (.invokevirtual 81, 3) := by decide +kernel
theorem dL_isRight_545 : decode cL_isRight 545 = .ok (.if_icmp .le 5, 3) := by decide +kernel
theorem dL_isRight_548 : decode cL_isRight 548 = .ok (.iconst 0, 1) := by decide +kernel
theorem dL_isRight_549 : decode cL_isRight 549 = .ok (.ireturn, 1) := by decide +kernel
theorem dL_isRight_550 : decode cL_isRight 550 = .ok (.iinc 10 1, 3) := by decide +kernel
theorem dL_isRight_553 : decode cL_isRight 553 = .ok (.goto (-60), 3) := by decide +kernel
theorem dL_isRight_556 : decode cL_isRight 556 = .ok (.aload_n 0, 1) := by decide +kernel
theorem dL_isRight_557 : decode cL_isRight 557 = .ok (.iload_n 1, 1) := by decide +kernel
theorem dL_isRight_558 : decode cL_isRight 558 = .ok (.bipush 7, 2) := by decide +kernel
theorem dL_isRight_560 : decode cL_isRight 560 = .ok (.imul, 1) := by decide +kernel
theorem dL_isRight_561 : decode cL_isRight 561 = .ok (.sipush 360, 3) := by decide +kernel
theorem dL_isRight_564 : decode cL_isRight 564 = .ok (.invokestatic 29, 3) := by decide +kernel
theorem dL_isRight_567 : decode cL_isRight 567 = .ok (.invokevirtual 75, 3) := by decide +kernel
theorem dL_isRight_570 : decode cL_isRight 570 = .ok (.istore 10, 2) := by decide +kernel
theorem dL_isRight_572 : decode cL_isRight 572 = .ok (.iload 10, 2) := by decide +kernel
theorem dL_isRight_574 : decode cL_isRight 574 = .ok (.ifCond .lt 75, 3) := by decide +kernel
theorem dL_isRight_577 : decode cL_isRight 577 = .ok (.iload_n 3, 1) := by decide +kernel
theorem dL_isRight_578 : decode cL_isRight 578 = .ok (.aload_n 0, 1) := by decide +kernel
theorem dL_isRight_579 : decode cL_isRight 579 = .ok (.bipush 8, 2) := by decide +kernel
theorem dL_isRight_581 : decode cL_isRight 581 = .ok (.invokevirtual 12, 3) := by decide +kernel
theorem dL_isRight_584 : decode cL_isRight 584 = .ok (.if_icmp .ne 65, 3) := by decide +kernel
theorem dL_isRight_587 : decode cL_isRight 587 = .ok (.iload 8, 2) := by decide +kernel
theorem dL_isRight_589 : decode cL_isRight 589 = .ok (.iload_n 3, 1) := by decide +kernel
theorem dL_isRight_590 : decode cL_isRight 590 = .ok (.if_icmp .ne 59, 3) := by decide +kernel
theorem dL_isRight_593 : decode cL_isRight 593 = .ok (.iload 9, 2) := by decide +kernel
theorem dL_isRight_595 : decode cL_isRight 595 = .ok (.aload_n 0, 1) := by decide +kernel
theorem dL_isRight_596 : decode cL_isRight 596 = .ok (.bipush 9, 2) := by decide +kernel
theorem dL_isRight_598 : decode cL_isRight 598 = .ok (.invokevirtual 12, 3) := by decide +kernel
theorem dL_isRight_601 : decode cL_isRight 601 = .ok (.if_icmp .ne 48, 3) := by decide +kernel
theorem dL_isRight_604 : decode cL_isRight 604 = .ok (.iload 4, 2) := by decide +kernel
theorem dL_isRight_606 : decode cL_isRight 606 = .ok (.aload_n 0, 1) := by decide +kernel
theorem dL_isRight_607 : decode cL_isRight 607 = .ok (.bipush 6, 2) := by decide +kernel
theorem dL_isRight_609 : decode cL_isRight 609 = .ok (.invokevirtual 12, 3) := by decide +kernel
theorem dL_isRight_612 : decode cL_isRight 612 = .ok (.if_icmp .ne 37, 3) := by decide +kernel
theorem dL_isRight_615 : decode cL_isRight 615 = .ok (.iload 5, 2) := by decide +kernel
theorem dL_isRight_617 : decode cL_isRight 617 = .ok (.aload_n 0, 1) := by decide +kernel
theorem dL_isRight_618 : decode cL_isRight 618 = .ok (.bipush 7, 2) := by decide +kernel
theorem dL_isRight_620 : decode cL_isRight 620 = .ok (.invokevirtual 12, 3) := by decide +kernel
theorem dL_isRight_623 : decode cL_isRight 623 = .ok (.if_icmp .ne 26, 3) := by decide +kernel
theorem dL_isRight_626 : decode cL_isRight 626 = .ok (.iload 6, 2) := by decide +kernel
theorem dL_isRight_628 : decode cL_isRight 628 = .ok (.aload_n 0, 1) := by decide +kernel
theorem dL_isRight_629 : decode cL_isRight 629 = .ok (.iconst 2, 1) := by decide +kernel
theorem dL_isRight_630 : decode cL_isRight 630 = .ok (.invokevirtual 12, 3) := by decide +kernel
theorem dL_isRight_633 : decode cL_isRight 633 = .ok (.if_icmp .ne 16, 3) := by decide +kernel
theorem dL_isRight_636 : decode cL_isRight 636 = .ok (.iload 7, 2) := by decide +kernel
theorem dL_isRight_638 : decode cL_isRight 638 = .ok (.aload_n 0, 1) := by decide +kernel
theorem dL_isRight_639 : decode cL_isRight 639 = .ok (.invokevirtual 84, 3) := by decide +kernel
theorem dL_isRight_642 : decode cL_isRight 642 = .ok (.if_icmp .ne 7, 3) := by decide +kernel
theorem dL_isRight_645 : decode cL_isRight 645 = .ok (.iconst 1, 1) := by decide +kernel
theorem dL_isRight_646 : decode cL_isRight 646 = .ok (.goto 4, 3) := by decide +kernel
theorem dL_isRight_649 : decode cL_isRight 649 = .ok (.iconst 0, 1) := by decide +kernel
theorem dL_isRight_650 : decode cL_isRight 650 = .ok (.ireturn, 1) := by decide +kernel
theorem dL_act_0 : decode cL_act 0 = .ok (.iload_n 1, 1) := by decide +kernel
theorem dL_act_1 : decode cL_act 1 = .ok (.iconst 4, 1) := by decide +kernel
theorem dL_act_2 : decode cL_act 2 = .ok (.ishr, 1) := by decide +kernel
theorem dL_act_3 : decode cL_act 3 = .ok (.istore_n 2, 1) := by decide +kernel
theorem dL_act_4 : decode cL_act 4 = .ok (.iload_n 1, 1) := by decide +kernel
theorem dL_act_5 : decode cL_act 5 = .ok (.bipush 15, 2) := by decide +kernel
theorem dL_act_7 : decode cL_act 7 = .ok (.iand, 1) := by decide +kernel
theorem dL_act_8 : decode cL_act 8 = .ok (.tableswitch 281 0 14 #[76, 76, 102, 112, 138, 138, 156, 156, 193, 204, 204, 238, 248, 253, 271], 76) := by decide +kernel
theorem dL_act_84 : decode cL_act 84 = .ok (.aload_n 0, 1) := by decide +kernel
theorem dL_act_85 : decode cL_act 85 = .ok (.iload_n 2, 1) := by decide +kernel
theorem dL_act_86 : decode cL_act 86 = .ok (.bipush 11, 2) := by decide +kernel
theorem dL_act_88 : decode cL_act 88 = .ok (.imul, 1) := by decide +kernel
theorem dL_act_89 : decode cL_act 89 = .ok (.sipush 360, 3) := by decide +kernel
theorem dL_act_92 : decode cL_act 92 = .ok (.invokestatic 29, 3) := by decide +kernel
theorem dL_act_95 : decode cL_act 95 = .ok (.iconst 1, 1) := by decide +kernel
theorem dL_act_96 : decode cL_act 96 = .ok (.iload_n 1, 1) := by decide +kernel
theorem dL_act_97 : decode cL_act 97 = .ok (.iconst 2, 1) := by decide +kernel
theorem dL_act_98 : decode cL_act 98 = .ok (.ishr, 1) := by decide +kernel
theorem dL_act_99 : decode cL_act 99 = .ok (.sipush 150, 3) := by decide +kernel
theorem dL_act_102 : decode cL_act 102 = .ok (.invokestatic 29, 3) := by decide +kernel
theorem dL_act_105 : decode cL_act 105 = .ok (.iadd, 1) := by decide +kernel
theorem dL_act_106 : decode cL_act 106 = .ok (.invokevirtual 34, 3) := by decide +kernel
theorem dL_act_109 : decode cL_act 109 = .ok (.ireturn, 1) := by decide +kernel
theorem dL_act_110 : decode cL_act 110 = .ok (.aload_n 0, 1) := by decide +kernel
theorem dL_act_111 : decode cL_act 111 = .ok (.iload_n 2, 1) := by decide +kernel
theorem dL_act_112 : decode cL_act 112 = .ok (.iconst 4, 1) := by decide +kernel
theorem dL_act_113 : decode cL_act 113 = .ok (.invokestatic 29, 3) := by decide +kernel
theorem dL_act_116 : decode cL_act 116 = .ok (.invokevirtual 37, 3) := by decide +kernel
theorem dL_act_119 : decode cL_act 119 = .ok (.ireturn, 1) := by decide +kernel
theorem dL_act_120 : decode cL_act 120 = .ok (.aload_n 0, 1) := by decide +kernel
theorem dL_act_121 : decode cL_act 121 = .ok (.iload_n 2, 1) := by decide +kernel
theorem dL_act_122 : decode cL_act 122 = .ok (.iconst 4, 1) := by decide +kernel
theorem dL_act_123 : decode cL_act 123 = .ok (.invokestatic 29, 3) := by decide +kernel
theorem dL_act_126 : decode cL_act 126 = .ok (.iload_n 1, 1) := by decide +kernel
theorem dL_act_127 : decode cL_act 127 = .ok (.bipush 9, 2) := by decide +kernel
theorem dL_act_129 : decode cL_act 129 = .ok (.ishr, 1) := by decide +kernel
theorem dL_act_130 : decode cL_act 130 = .ok (.iconst 1, 1) := by decide +kernel
theorem dL_act_131 : decode cL_act 131 = .ok (.iand, 1) := by decide +kernel
theorem dL_act_132 : decode cL_act 132 = .ok (.iconst 1, 1) := by decide +kernel
theorem dL_act_133 : decode cL_act 133 = .ok (.iload_n 1, 1) := by decide +kernel
theorem dL_act_134 : decode cL_act 134 = .ok (.iconst 3, 1) := by decide +kernel
theorem dL_act_135 : decode cL_act 135 = .ok (.ishr, 1) := by decide +kernel
theorem dL_act_136 : decode cL_act 136 = .ok (.bipush 120, 2) := by decide +kernel
theorem dL_act_138 : decode cL_act 138 = .ok (.invokestatic 29, 3) := by decide +kernel
theorem dL_act_141 : decode cL_act 141 = .ok (.iadd, 1) := by decide +kernel
theorem dL_act_142 : decode cL_act 142 = .ok (.invokevirtual 40, 3) := by decide +kernel
theorem dL_act_145 : decode cL_act 145 = .ok (.ireturn, 1) := by decide +kernel
theorem dL_act_146 : decode cL_act 146 = .ok (.aload_n 0, 1) := by decide +kernel
theorem dL_act_147 : decode cL_act 147 = .ok (.iload_n 2, 1) := by decide +kernel
theorem dL_act_148 : decode cL_act 148 = .ok (.iconst 4, 1) := by decide +kernel
theorem dL_act_149 : decode cL_act 149 = .ok (.invokestatic 29, 3) := by decide +kernel
theorem dL_act_152 : decode cL_act 152 = .ok (.iload_n 1, 1) := by decide +kernel
theorem dL_act_153 : decode cL_act 153 = .ok (.iconst 4, 1) := by decide +kernel
theorem dL_act_154 : decode cL_act 154 = .ok (.ishr, 1) := by decide +kernel
theorem dL_act_155 : decode cL_act 155 = .ok (.bipush 60, 2) := by decide +kernel
theorem dL_act_157 : decode cL_act 157 = .ok (.invokestatic 29, 3) := by decide +kernel
theorem dL_act_160 : decode cL_act 160 = .ok (.invokevirtual 43, 3) := by decide +kernel
theorem dL_act_163 : decode cL_act 163 = .ok (.ireturn, 1) := by decide +kernel
theorem dL_act_164 : decode cL_act 164 = .ok (.aload_n 0, 1) := by decide +kernel
theorem dL_act_165 : decode cL_act 165 = .ok (.iload_n 2, 1) := by decide +kernel
theorem dL_act_166 : decode cL_act 166 = .ok (.iconst 3, 1) := by decide +kernel
theorem dL_act_167 : decode cL_act 167 = .ok (.invokestatic 29, 3) := by decide +kernel
theorem dL_act_170 : decode cL_act 170 = .ok (.iload_n 1, 1) := by decide +kernel
theorem dL_act_171 : decode cL_act 171 = .ok (.bipush 6, 2) := by decide +kernel
theorem dL_act_173 : decode cL_act 173 = .ok (.ishr, 1) := by decide +kernel
theorem dL_act_174 : decode cL_act 174 = .ok (.iconst 3, 1) := by decide +kernel
theorem dL_act_175 : decode cL_act 175 = .ok (.invokestatic 29, 3) := by decide +kernel
theorem dL_act_178 : decode cL_act 178 = .ok (.iconst 1, 1) := by decide +kernel
theorem dL_act_179 : decode cL_act 179 = .ok (.iload_n 1, 1) := by decide +kernel
theorem dL_act_180 : decode cL_act 180 = .ok (.iconst 5, 1) := by decide +kernel
theorem dL_act_181 : decode cL_act 181 = .ok (.ishr, 1) := by decide +kernel
theorem dL_act_182 : decode cL_act 182 = .ok (.iconst 3, 1) := by decide +kernel
theorem dL_act_183 : decode cL_act 183 = .ok (.invokestatic 29, 3) := by decide +kernel
theorem dL_act_186 : decode cL_act 186 = .ok (.iadd, 1) := by decide +kernel
theorem dL_act_187 : decode cL_act 187 = .ok (.iconst 1, 1) := by decide +kernel
theorem dL_act_188 : decode cL_act 188 = .ok (.iload_n 1, 1) := by decide +kernel
theorem dL_act_189 : decode cL_act 189 = .ok (.iconst 4, 1) := by decide +kernel
theorem dL_act_190 : decode cL_act 190 = .ok (.ishr, 1) := by decide +kernel
theorem dL_act_191 : decode cL_act 191 = .ok (.bipush 6, 2) := by decide +kernel
theorem dL_act_193 : decode cL_act 193 = .ok (.invokestatic 29, 3) := by decide +kernel
theorem dL_act_196 : decode cL_act 196 = .ok (.iadd, 1) := by decide +kernel
theorem dL_act_197 : decode cL_act 197 = .ok (.invokevirtual 46, 3) := by decide +kernel
theorem dL_act_200 : decode cL_act 200 = .ok (.ireturn, 1) := by decide +kernel
theorem dL_act_201 : decode cL_act 201 = .ok (.aload_n 0, 1) := by decide +kernel
theorem dL_act_202 : decode cL_act 202 = .ok (.iload_n 2, 1) := by decide +kernel
theorem dL_act_203 : decode cL_act 203 = .ok (.bipush 6, 2) := by decide +kernel
theorem dL_act_205 : decode cL_act 205 = .ok (.invokestatic 29, 3) := by decide +kernel
theorem dL_act_208 : decode cL_act 208 = .ok (.invokevirtual 50, 3) := by decide +kernel
theorem dL_act_211 : decode cL_act 211 = .ok (.ireturn, 1) := by decide +kernel
theorem dL_act_212 : decode cL_act 212 = .ok (.aload_n 0, 1) := by decide +kernel
theorem dL_act_213 : decode cL_act 213 = .ok (.iload_n 2, 1) := by decide +kernel
theorem dL_act_214 : decode cL_act 214 = .ok (.iconst 5, 1) := by decide +kernel
theorem dL_act_215 : decode cL_act 215 = .ok (.invokestatic 29, 3) := by decide +kernel
theorem dL_act_218 : decode cL_act 218 = .ok (.iload_n 1, 1) := by decide +kernel
theorem dL_act_219 : decode cL_act 219 = .ok (.bipush 6, 2) := by decide +kernel
theorem dL_act_221 : decode cL_act 221 = .ok (.ishr, 1) := by decide +kernel
theorem dL_act_222 : decode cL_act 222 = .ok (.iconst 3, 1) := by decide +kernel
theorem dL_act_223 : decode cL_act 223 = .ok (.invokestatic 29, 3) := by decide +kernel
theorem dL_act_226 : decode cL_act 226 = .ok (.iload_n 1, 1) := by decide +kernel
theorem dL_act_227 : decode cL_act 227 = .ok (.iconst 5, 1) := by decide +kernel
theorem dL_act_228 : decode cL_act 228 = .ok (.ishr, 1) := by decide +kernel
theorem dL_act_229 : decode cL_act 229 = .ok (.bipush 6, 2) := by decide +kernel
theorem dL_act_231 : decode cL_act 231 = .ok (.invokestatic 29, 3) := by decide +kernel
theorem dL_act_234 : decode cL_act 234 = .ok (.iload_n 1, 1) := by decide +kernel
theorem dL_act_235 : decode cL_act 235 = .ok (.iconst 3, 1) := by decide +kernel
theorem dL_act_236 : decode cL_act 236 = .ok (.ishr, 1) := by decide +kernel
theorem dL_act_237 : decode cL_act 237 = .ok (.bipush 20, 2) := by decide +kernel
theorem dL_act_239 : decode cL_act 239 = .ok (.invokestatic 29, 3) := by decide +kernel
theorem dL_act_242 : decode cL_act 242 = .ok (.invokevirtual 53, 3) := by decide +kernel
theorem dL_act_245 : decode cL_act 245 = .ok (.ireturn, 1) := by decide +kernel
theorem dL_act_246 : decode cL_act 246 = .ok (.aload_n 0, 1) := by decide +kernel
theorem dL_act_247 : decode cL_act 247 = .ok (.iload_n 2, 1) := by decide +kernel
theorem dL_act_248 : decode cL_act 248 = .ok (.iconst 5, 1) := by decide +kernel
theorem dL_act_249 : decode cL_act 249 = .ok (.invokestatic 29, 3) := by decide +kernel
theorem dL_act_252 : decode cL_act 252 = .ok (.invokevirtual 56, 3) := by decide +kernel
theorem dL_act_255 : decode cL_act 255 = .ok (.ireturn, 1) := by decide +kernel
theorem dL_act_256 : decode cL_act 256 = .ok (.aload_n 0, 1) := by decide +kernel
theorem dL_act_257 : decode cL_act 257 = .ok (.invokevirtual 59, 3) := by decide +kernel
theorem dL_act_260 : decode cL_act 260 = .ok (.ireturn, 1) := by decide +kernel
theorem dL_act_261 : decode cL_act 261 = .ok (.aload_n 0, 1) := by decide +kernel
theorem dL_act_262 : decode cL_act 262 = .ok (.iload_n 2, 1) := by decide +kernel
theorem dL_act_263 : decode cL_act 263 = .ok (.iconst 3, 1) := by decide +kernel
theorem dL_act_264 : decode cL_act 264 = .ok (.invokestatic 29, 3) := by decide +kernel
theorem dL_act_267 : decode cL_act 267 = .ok (.iload_n 1, 1) := by decide +kernel
theorem dL_act_268 : decode cL_act 268 = .ok (.iconst 5, 1) := by decide +kernel
theorem dL_act_269 : decode cL_act 269 = .ok (.ishr, 1) := by decide +kernel
theorem dL_act_270 : decode cL_act 270 = .ok (.bipush 12, 2) := by decide +kernel
theorem dL_act_272 : decode cL_act 272 = .ok (.invokestatic 29, 3) := by decide +kernel
theorem dL_act_275 : decode cL_act 275 = .ok (.invokevirtual 63, 3) := by decide +kernel
theorem dL_act_278 : decode cL_act 278 = .ok (.ireturn, 1) := by decide +kernel
theorem dL_act_279 : decode cL_act 279 = .ok (.aload_n 0, 1) := by decide +kernel
theorem dL_act_280 : decode cL_act 280 = .ok (.iload_n 2, 1) := by decide +kernel
theorem dL_act_281 : decode cL_act 281 = .ok (.iconst 2, 1) := by decide +kernel
theorem dL_act_282 : decode cL_act 282 = .ok (.invokestatic 29, 3) := by decide +kernel
theorem dL_act_285 : decode cL_act 285 = .ok (.invokevirtual 66, 3) := by decide +kernel
theorem dL_act_288 : decode cL_act 288 = .ok (.ireturn, 1) := by decide +kernel
theorem dL_act_289 : decode cL_act 289 = .ok (.aload_n 0, 1) := by decide +kernel
theorem dL_act_290 : decode cL_act 290 = .ok (.iload_n 2, 1) := by decide +kernel
theorem dL_act_291 : decode cL_act 291 = .ok (.iconst 2, 1) := by decide +kernel
theorem dL_act_292 : decode cL_act 292 = .ok (.invokestatic 29, 3) := by decide +kernel
theorem dL_act_295 : decode cL_act 295 = .ok (.invokevirtual 69, 3) := by decide +kernel
theorem dL_act_298 : decode cL_act 298 = .ok (.ireturn, 1) := by decide +kernel
