/-! Decode rows (printed by the claim's program, NAMES.whole.lean.txt). -/
theorem dX0_copyFrom_0 : decode cX0_copyFrom 0 = .ok (.aload_n 0, 1) := by decide +kernel
theorem dX0_copyFrom_1 : decode cX0_copyFrom 1 = .ok (.aload_n 1, 1) := by decide +kernel
theorem dX0_copyFrom_2 : decode cX0_copyFrom 2 = .ok (.getfield 15, 3) := by decide +kernel
theorem dX0_copyFrom_5 : decode cX0_copyFrom 5 = .ok (.putfield 15, 3) := by decide +kernel
theorem dX0_copyFrom_8 : decode cX0_copyFrom 8 = .ok (.aload_n 0, 1) := by decide +kernel
theorem dX0_copyFrom_9 : decode cX0_copyFrom 9 = .ok (.aload_n 1, 1) := by decide +kernel
theorem dX0_copyFrom_10 : decode cX0_copyFrom 10 = .ok (.getfield 19, 3) := by decide +kernel
theorem dX0_copyFrom_13 : decode cX0_copyFrom 13 = .ok (.putfield 19, 3) := by decide +kernel
theorem dX0_copyFrom_16 : decode cX0_copyFrom 16 = .ok (.aload_n 0, 1) := by decide +kernel
theorem dX0_copyFrom_17 : decode cX0_copyFrom 17 = .ok (.aload_n 1, 1) := by decide +kernel
theorem dX0_copyFrom_18 : decode cX0_copyFrom 18 = .ok (.getfield 22, 3) := by decide +kernel
theorem dX0_copyFrom_21 : decode cX0_copyFrom 21 = .ok (.putfield 22, 3) := by decide +kernel
theorem dX0_copyFrom_24 : decode cX0_copyFrom 24 = .ok (.aload_n 1, 1) := by decide +kernel
theorem dX0_copyFrom_25 : decode cX0_copyFrom 25 = .ok (.getfield 9, 3) := by decide +kernel
theorem dX0_copyFrom_28 : decode cX0_copyFrom 28 = .ok (.iconst 0, 1) := by decide +kernel
theorem dX0_copyFrom_29 : decode cX0_copyFrom 29 = .ok (.aload_n 0, 1) := by decide +kernel
theorem dX0_copyFrom_30 : decode cX0_copyFrom 30 = .ok (.getfield 9, 3) := by decide +kernel
theorem dX0_copyFrom_33 : decode cX0_copyFrom 33 = .ok (.iconst 0, 1) := by decide +kernel
theorem dX0_copyFrom_34 : decode cX0_copyFrom 34 = .ok (.bipush 8, 2) := by decide +kernel
theorem dX0_copyFrom_36 : decode cX0_copyFrom 36 = .ok (.invokestatic 25, 3) := by decide +kernel
theorem dX0_copyFrom_39 : decode cX0_copyFrom 39 = .ok (.return_, 1) := by decide +kernel
theorem dX0_newSentence_0 : decode cX0_newSentence 0 = .ok (.aload_n 0, 1) := by decide +kernel
theorem dX0_newSentence_1 : decode cX0_newSentence 1 = .ok (.getfield 22, 3) := by decide +kernel
theorem dX0_newSentence_4 : decode cX0_newSentence 4 = .ok (.bipush 8, 2) := by decide +kernel
theorem dX0_newSentence_6 : decode cX0_newSentence 6 = .ok (.if_icmp .lt 6, 3) := by decide +kernel
theorem dX0_newSentence_9 : decode cX0_newSentence 9 = .ok (.bipush (-3), 2) := by decide +kernel
theorem dX0_newSentence_11 : decode cX0_newSentence 11 = .ok (.ireturn, 1) := by decide +kernel
theorem dX0_newSentence_12 : decode cX0_newSentence 12 = .ok (.aload_n 0, 1) := by decide +kernel
theorem dX0_newSentence_13 : decode cX0_newSentence 13 = .ok (.getfield 9, 3) := by decide +kernel
theorem dX0_newSentence_16 : decode cX0_newSentence 16 = .ok (.aload_n 0, 1) := by decide +kernel
theorem dX0_newSentence_17 : decode cX0_newSentence 17 = .ok (.getfield 22, 3) := by decide +kernel
theorem dX0_newSentence_20 : decode cX0_newSentence 20 = .ok (.iload_n 1, 1) := by decide +kernel
theorem dX0_newSentence_21 : decode cX0_newSentence 21 = .ok (.iastore, 1) := by decide +kernel
theorem dX0_newSentence_22 : decode cX0_newSentence 22 = .ok (.aload_n 0, 1) := by decide +kernel
theorem dX0_newSentence_23 : decode cX0_newSentence 23 = .ok (.dup, 1) := by decide +kernel
theorem dX0_newSentence_24 : decode cX0_newSentence 24 = .ok (.getfield 22, 3) := by decide +kernel
theorem dX0_newSentence_27 : decode cX0_newSentence 27 = .ok (.iconst 1, 1) := by decide +kernel
theorem dX0_newSentence_28 : decode cX0_newSentence 28 = .ok (.iadd, 1) := by decide +kernel
theorem dX0_newSentence_29 : decode cX0_newSentence 29 = .ok (.putfield 22, 3) := by decide +kernel
theorem dX0_newSentence_32 : decode cX0_newSentence 32 = .ok (.aload_n 0, 1) := by decide +kernel
theorem dX0_newSentence_33 : decode cX0_newSentence 33 = .ok (.getfield 22, 3) := by decide +kernel
theorem dX0_newSentence_36 : decode cX0_newSentence 36 = .ok (.iconst 1, 1) := by decide +kernel
theorem dX0_newSentence_37 : decode cX0_newSentence 37 = .ok (.isub, 1) := by decide +kernel
theorem dX0_newSentence_38 : decode cX0_newSentence 38 = .ok (.ireturn, 1) := by decide +kernel
theorem dX1_newArticle_0 : decode cX1_newArticle 0 = .ok (.aload_n 0, 1) := by decide +kernel
theorem dX1_newArticle_1 : decode cX1_newArticle 1 = .ok (.getfield 29, 3) := by decide +kernel
theorem dX1_newArticle_4 : decode cX1_newArticle 4 = .ok (.bipush 6, 2) := by decide +kernel
theorem dX1_newArticle_6 : decode cX1_newArticle 6 = .ok (.if_icmp .lt 6, 3) := by decide +kernel
theorem dX1_newArticle_9 : decode cX1_newArticle 9 = .ok (.bipush (-3), 2) := by decide +kernel
theorem dX1_newArticle_11 : decode cX1_newArticle 11 = .ok (.ireturn, 1) := by decide +kernel
theorem dX1_newArticle_12 : decode cX1_newArticle 12 = .ok (.aload_n 0, 1) := by decide +kernel
theorem dX1_newArticle_13 : decode cX1_newArticle 13 = .ok (.getfield 11, 3) := by decide +kernel
theorem dX1_newArticle_16 : decode cX1_newArticle 16 = .ok (.aload_n 0, 1) := by decide +kernel
theorem dX1_newArticle_17 : decode cX1_newArticle 17 = .ok (.getfield 29, 3) := by decide +kernel
theorem dX1_newArticle_20 : decode cX1_newArticle 20 = .ok (.aaload, 1) := by decide +kernel
theorem dX1_newArticle_21 : decode cX1_newArticle 21 = .ok (.astore_n 3, 1) := by decide +kernel
theorem dX1_newArticle_22 : decode cX1_newArticle 22 = .ok (.aload_n 3, 1) := by decide +kernel
theorem dX1_newArticle_23 : decode cX1_newArticle 23 = .ok (.iload_n 1, 1) := by decide +kernel
theorem dX1_newArticle_24 : decode cX1_newArticle 24 = .ok (.putfield 63, 3) := by decide +kernel
theorem dX1_newArticle_27 : decode cX1_newArticle 27 = .ok (.aload_n 3, 1) := by decide +kernel
theorem dX1_newArticle_28 : decode cX1_newArticle 28 = .ok (.iload_n 2, 1) := by decide +kernel
theorem dX1_newArticle_29 : decode cX1_newArticle 29 = .ok (.putfield 57, 3) := by decide +kernel
theorem dX1_newArticle_32 : decode cX1_newArticle 32 = .ok (.aload_n 3, 1) := by decide +kernel
theorem dX1_newArticle_33 : decode cX1_newArticle 33 = .ok (.iconst 0, 1) := by decide +kernel
theorem dX1_newArticle_34 : decode cX1_newArticle 34 = .ok (.putfield 60, 3) := by decide +kernel
theorem dX1_newArticle_37 : decode cX1_newArticle 37 = .ok (.aload_n 0, 1) := by decide +kernel
theorem dX1_newArticle_38 : decode cX1_newArticle 38 = .ok (.dup, 1) := by decide +kernel
theorem dX1_newArticle_39 : decode cX1_newArticle 39 = .ok (.getfield 29, 3) := by decide +kernel
theorem dX1_newArticle_42 : decode cX1_newArticle 42 = .ok (.iconst 1, 1) := by decide +kernel
theorem dX1_newArticle_43 : decode cX1_newArticle 43 = .ok (.iadd, 1) := by decide +kernel
theorem dX1_newArticle_44 : decode cX1_newArticle 44 = .ok (.putfield 29, 3) := by decide +kernel
theorem dX1_newArticle_47 : decode cX1_newArticle 47 = .ok (.aload_n 0, 1) := by decide +kernel
theorem dX1_newArticle_48 : decode cX1_newArticle 48 = .ok (.getfield 29, 3) := by decide +kernel
theorem dX1_newArticle_51 : decode cX1_newArticle 51 = .ok (.iconst 1, 1) := by decide +kernel
theorem dX1_newArticle_52 : decode cX1_newArticle 52 = .ok (.isub, 1) := by decide +kernel
theorem dX1_newArticle_53 : decode cX1_newArticle 53 = .ok (.ireturn, 1) := by decide +kernel
theorem dX1_newQuote_0 : decode cX1_newQuote 0 = .ok (.aload_n 0, 1) := by decide +kernel
theorem dX1_newQuote_1 : decode cX1_newQuote 1 = .ok (.getfield 37, 3) := by decide +kernel
theorem dX1_newQuote_4 : decode cX1_newQuote 4 = .ok (.bipush 8, 2) := by decide +kernel
theorem dX1_newQuote_6 : decode cX1_newQuote 6 = .ok (.if_icmp .lt 6, 3) := by decide +kernel
theorem dX1_newQuote_9 : decode cX1_newQuote 9 = .ok (.bipush (-3), 2) := by decide +kernel
theorem dX1_newQuote_11 : decode cX1_newQuote 11 = .ok (.ireturn, 1) := by decide +kernel
theorem dX1_newQuote_12 : decode cX1_newQuote 12 = .ok (.aload_n 0, 1) := by decide +kernel
theorem dX1_newQuote_13 : decode cX1_newQuote 13 = .ok (.getfield 19, 3) := by decide +kernel
theorem dX1_newQuote_16 : decode cX1_newQuote 16 = .ok (.aload_n 0, 1) := by decide +kernel
theorem dX1_newQuote_17 : decode cX1_newQuote 17 = .ok (.getfield 37, 3) := by decide +kernel
theorem dX1_newQuote_20 : decode cX1_newQuote 20 = .ok (.aaload, 1) := by decide +kernel
theorem dX1_newQuote_21 : decode cX1_newQuote 21 = .ok (.astore 5, 2) := by decide +kernel
theorem dX1_newQuote_23 : decode cX1_newQuote 23 = .ok (.aload 5, 2) := by decide +kernel
theorem dX1_newQuote_25 : decode cX1_newQuote 25 = .ok (.iload_n 1, 1) := by decide +kernel
theorem dX1_newQuote_26 : decode cX1_newQuote 26 = .ok (.putfield 66, 3) := by decide +kernel
theorem dX1_newQuote_29 : decode cX1_newQuote 29 = .ok (.aload 5, 2) := by decide +kernel
theorem dX1_newQuote_31 : decode cX1_newQuote 31 = .ok (.iload_n 2, 1) := by decide +kernel
theorem dX1_newQuote_32 : decode cX1_newQuote 32 = .ok (.putfield 69, 3) := by decide +kernel
theorem dX1_newQuote_35 : decode cX1_newQuote 35 = .ok (.aload 5, 2) := by decide +kernel
theorem dX1_newQuote_37 : decode cX1_newQuote 37 = .ok (.iload_n 3, 1) := by decide +kernel
theorem dX1_newQuote_38 : decode cX1_newQuote 38 = .ok (.putfield 72, 3) := by decide +kernel
theorem dX1_newQuote_41 : decode cX1_newQuote 41 = .ok (.aload 5, 2) := by decide +kernel
theorem dX1_newQuote_43 : decode cX1_newQuote 43 = .ok (.iload 4, 2) := by decide +kernel
theorem dX1_newQuote_45 : decode cX1_newQuote 45 = .ok (.putfield 75, 3) := by decide +kernel
theorem dX1_newQuote_48 : decode cX1_newQuote 48 = .ok (.aload 5, 2) := by decide +kernel
theorem dX1_newQuote_50 : decode cX1_newQuote 50 = .ok (.iconst 0, 1) := by decide +kernel
theorem dX1_newQuote_51 : decode cX1_newQuote 51 = .ok (.putfield 78, 3) := by decide +kernel
theorem dX1_newQuote_54 : decode cX1_newQuote 54 = .ok (.aload_n 0, 1) := by decide +kernel
theorem dX1_newQuote_55 : decode cX1_newQuote 55 = .ok (.dup, 1) := by decide +kernel
theorem dX1_newQuote_56 : decode cX1_newQuote 56 = .ok (.getfield 37, 3) := by decide +kernel
theorem dX1_newQuote_59 : decode cX1_newQuote 59 = .ok (.iconst 1, 1) := by decide +kernel
theorem dX1_newQuote_60 : decode cX1_newQuote 60 = .ok (.iadd, 1) := by decide +kernel
theorem dX1_newQuote_61 : decode cX1_newQuote 61 = .ok (.putfield 37, 3) := by decide +kernel
theorem dX1_newQuote_64 : decode cX1_newQuote 64 = .ok (.aload_n 0, 1) := by decide +kernel
theorem dX1_newQuote_65 : decode cX1_newQuote 65 = .ok (.getfield 37, 3) := by decide +kernel
theorem dX1_newQuote_68 : decode cX1_newQuote 68 = .ok (.iconst 1, 1) := by decide +kernel
theorem dX1_newQuote_69 : decode cX1_newQuote 69 = .ok (.isub, 1) := by decide +kernel
theorem dX1_newQuote_70 : decode cX1_newQuote 70 = .ok (.ireturn, 1) := by decide +kernel
theorem dX1_placedQuotes_0 : decode cX1_placedQuotes 0 = .ok (.iconst 0, 1) := by decide +kernel
theorem dX1_placedQuotes_1 : decode cX1_placedQuotes 1 = .ok (.istore_n 1, 1) := by decide +kernel
theorem dX1_placedQuotes_2 : decode cX1_placedQuotes 2 = .ok (.iconst 0, 1) := by decide +kernel
theorem dX1_placedQuotes_3 : decode cX1_placedQuotes 3 = .ok (.istore_n 2, 1) := by decide +kernel
theorem dX1_placedQuotes_4 : decode cX1_placedQuotes 4 = .ok (.iload_n 2, 1) := by decide +kernel
theorem dX1_placedQuotes_5 : decode cX1_placedQuotes 5 = .ok (.aload_n 0, 1) := by decide +kernel
theorem dX1_placedQuotes_6 : decode cX1_placedQuotes 6 = .ok (.getfield 37, 3) := by decide +kernel
theorem dX1_placedQuotes_9 : decode cX1_placedQuotes 9 = .ok (.if_icmp .ge 24, 3) := by decide +kernel
theorem dX1_placedQuotes_12 : decode cX1_placedQuotes 12 = .ok (.aload_n 0, 1) := by decide +kernel
theorem dX1_placedQuotes_13 : decode cX1_placedQuotes 13 = .ok (.getfield 19, 3) := by decide +kernel
theorem dX1_placedQuotes_16 : decode cX1_placedQuotes 16 = .ok (.iload_n 2, 1) := by decide +kernel
theorem dX1_placedQuotes_17 : decode cX1_placedQuotes 17 = .ok (.aaload, 1) := by decide +kernel
theorem dX1_placedQuotes_18 : decode cX1_placedQuotes 18 = .ok (.getfield 78, 3) := by decide +kernel
theorem dX1_placedQuotes_21 : decode cX1_placedQuotes 21 = .ok (.ifCond .eq 6, 3) := by decide +kernel
theorem dX1_placedQuotes_24 : decode cX1_placedQuotes 24 = .ok (.iinc 1 1, 3) := by decide +kernel
theorem dX1_placedQuotes_27 : decode cX1_placedQuotes 27 = .ok (.iinc 2 1, 3) := by decide +kernel
theorem dX1_placedQuotes_30 : decode cX1_placedQuotes 30 = .ok (.goto (-26), 3) := by decide +kernel
theorem dX1_placedQuotes_33 : decode cX1_placedQuotes 33 = .ok (.iload_n 1, 1) := by decide +kernel
theorem dX1_placedQuotes_34 : decode cX1_placedQuotes 34 = .ok (.ireturn, 1) := by decide +kernel
theorem dX2_hasLineOn_0 : decode cX2_hasLineOn 0 = .ok (.aload_n 0, 1) := by decide +kernel
theorem dX2_hasLineOn_1 : decode cX2_hasLineOn 1 = .ok (.getfield 15, 3) := by decide +kernel
theorem dX2_hasLineOn_4 : decode cX2_hasLineOn 4 = .ok (.iload_n 1, 1) := by decide +kernel
theorem dX2_hasLineOn_5 : decode cX2_hasLineOn 5 = .ok (.iaload, 1) := by decide +kernel
theorem dX2_hasLineOn_6 : decode cX2_hasLineOn 6 = .ok (.ifCond .le 7, 3) := by decide +kernel
theorem dX2_hasLineOn_9 : decode cX2_hasLineOn 9 = .ok (.iconst 1, 1) := by decide +kernel
theorem dX2_hasLineOn_10 : decode cX2_hasLineOn 10 = .ok (.goto 4, 3) := by decide +kernel
theorem dX2_hasLineOn_13 : decode cX2_hasLineOn 13 = .ok (.iconst 0, 1) := by decide +kernel
theorem dX2_hasLineOn_14 : decode cX2_hasLineOn 14 = .ok (.ireturn, 1) := by decide +kernel
theorem dX3_dropOldest_0 : decode cX3_dropOldest 0 = .ok (.aload_n 0, 1) := by decide +kernel
theorem dX3_dropOldest_1 : decode cX3_dropOldest 1 = .ok (.getfield 11, 3) := by decide +kernel
theorem dX3_dropOldest_4 : decode cX3_dropOldest 4 = .ok (.iconst 0, 1) := by decide +kernel
theorem dX3_dropOldest_5 : decode cX3_dropOldest 5 = .ok (.aaload, 1) := by decide +kernel
theorem dX3_dropOldest_6 : decode cX3_dropOldest 6 = .ok (.astore_n 1, 1) := by decide +kernel
theorem dX3_dropOldest_7 : decode cX3_dropOldest 7 = .ok (.iconst 1, 1) := by decide +kernel
theorem dX3_dropOldest_8 : decode cX3_dropOldest 8 = .ok (.istore_n 2, 1) := by decide +kernel
theorem dX3_dropOldest_9 : decode cX3_dropOldest 9 = .ok (.iload_n 2, 1) := by decide +kernel
theorem dX3_dropOldest_10 : decode cX3_dropOldest 10 = .ok (.iconst 5, 1) := by decide +kernel
theorem dX3_dropOldest_11 : decode cX3_dropOldest 11 = .ok (.if_icmp .ge 23, 3) := by decide +kernel
theorem dX3_dropOldest_14 : decode cX3_dropOldest 14 = .ok (.aload_n 0, 1) := by decide +kernel
theorem dX3_dropOldest_15 : decode cX3_dropOldest 15 = .ok (.getfield 11, 3) := by decide +kernel
theorem dX3_dropOldest_18 : decode cX3_dropOldest 18 = .ok (.iload_n 2, 1) := by decide +kernel
theorem dX3_dropOldest_19 : decode cX3_dropOldest 19 = .ok (.iconst 1, 1) := by decide +kernel
theorem dX3_dropOldest_20 : decode cX3_dropOldest 20 = .ok (.isub, 1) := by decide +kernel
theorem dX3_dropOldest_21 : decode cX3_dropOldest 21 = .ok (.aload_n 0, 1) := by decide +kernel
theorem dX3_dropOldest_22 : decode cX3_dropOldest 22 = .ok (.getfield 11, 3) := by decide +kernel
theorem dX3_dropOldest_25 : decode cX3_dropOldest 25 = .ok (.iload_n 2, 1) := by decide +kernel
theorem dX3_dropOldest_26 : decode cX3_dropOldest 26 = .ok (.aaload, 1) := by decide +kernel
theorem dX3_dropOldest_27 : decode cX3_dropOldest 27 = .ok (.aastore, 1) := by decide +kernel
theorem dX3_dropOldest_28 : decode cX3_dropOldest 28 = .ok (.iinc 2 1, 3) := by decide +kernel
theorem dX3_dropOldest_31 : decode cX3_dropOldest 31 = .ok (.goto (-22), 3) := by decide +kernel
theorem dX3_dropOldest_34 : decode cX3_dropOldest 34 = .ok (.aload_n 0, 1) := by decide +kernel
theorem dX3_dropOldest_35 : decode cX3_dropOldest 35 = .ok (.getfield 11, 3) := by decide +kernel
theorem dX3_dropOldest_38 : decode cX3_dropOldest 38 = .ok (.iconst 4, 1) := by decide +kernel
theorem dX3_dropOldest_39 : decode cX3_dropOldest 39 = .ok (.aload_n 1, 1) := by decide +kernel
theorem dX3_dropOldest_40 : decode cX3_dropOldest 40 = .ok (.aastore, 1) := by decide +kernel
theorem dX3_dropOldest_41 : decode cX3_dropOldest 41 = .ok (.aload_n 0, 1) := by decide +kernel
theorem dX3_dropOldest_42 : decode cX3_dropOldest 42 = .ok (.iconst 4, 1) := by decide +kernel
theorem dX3_dropOldest_43 : decode cX3_dropOldest 43 = .ok (.putfield 18, 3) := by decide +kernel
theorem dX3_dropOldest_46 : decode cX3_dropOldest 46 = .ok (.return_, 1) := by decide +kernel
theorem dX4_takenBetween_0 : decode cX4_takenBetween 0 = .ok (.iconst 0, 1) := by decide +kernel
theorem dX4_takenBetween_1 : decode cX4_takenBetween 1 = .ok (.istore 4, 2) := by decide +kernel
theorem dX4_takenBetween_3 : decode cX4_takenBetween 3 = .ok (.iload_n 1, 1) := by decide +kernel
theorem dX4_takenBetween_4 : decode cX4_takenBetween 4 = .ok (.istore 5, 2) := by decide +kernel
theorem dX4_takenBetween_6 : decode cX4_takenBetween 6 = .ok (.iload 5, 2) := by decide +kernel
theorem dX4_takenBetween_8 : decode cX4_takenBetween 8 = .ok (.iload_n 2, 1) := by decide +kernel
theorem dX4_takenBetween_9 : decode cX4_takenBetween 9 = .ok (.if_icmp .ge 23, 3) := by decide +kernel
theorem dX4_takenBetween_12 : decode cX4_takenBetween 12 = .ok (.aload_n 0, 1) := by decide +kernel
theorem dX4_takenBetween_13 : decode cX4_takenBetween 13 = .ok (.getfield 9, 3) := by decide +kernel
theorem dX4_takenBetween_16 : decode cX4_takenBetween 16 = .ok (.iload 5, 2) := by decide +kernel
theorem dX4_takenBetween_18 : decode cX4_takenBetween 18 = .ok (.iaload, 1) := by decide +kernel
theorem dX4_takenBetween_19 : decode cX4_takenBetween 19 = .ok (.iload_n 3, 1) := by decide +kernel
theorem dX4_takenBetween_20 : decode cX4_takenBetween 20 = .ok (.if_icmp .lt 6, 3) := by decide +kernel
theorem dX4_takenBetween_23 : decode cX4_takenBetween 23 = .ok (.iinc 4 1, 3) := by decide +kernel
theorem dX4_takenBetween_26 : decode cX4_takenBetween 26 = .ok (.iinc 5 1, 3) := by decide +kernel
theorem dX4_takenBetween_29 : decode cX4_takenBetween 29 = .ok (.goto (-23), 3) := by decide +kernel
theorem dX4_takenBetween_32 : decode cX4_takenBetween 32 = .ok (.iload 4, 2) := by decide +kernel
theorem dX4_takenBetween_34 : decode cX4_takenBetween 34 = .ok (.ireturn, 1) := by decide +kernel
theorem dX4_oversetInAll_0 : decode cX4_oversetInAll 0 = .ok (.iconst 0, 1) := by decide +kernel
theorem dX4_oversetInAll_1 : decode cX4_oversetInAll 1 = .ok (.istore_n 1, 1) := by decide +kernel
theorem dX4_oversetInAll_2 : decode cX4_oversetInAll 2 = .ok (.iconst 0, 1) := by decide +kernel
theorem dX4_oversetInAll_3 : decode cX4_oversetInAll 3 = .ok (.istore_n 2, 1) := by decide +kernel
theorem dX4_oversetInAll_4 : decode cX4_oversetInAll 4 = .ok (.iload_n 2, 1) := by decide +kernel
theorem dX4_oversetInAll_5 : decode cX4_oversetInAll 5 = .ok (.aload_n 0, 1) := by decide +kernel
theorem dX4_oversetInAll_6 : decode cX4_oversetInAll 6 = .ok (.getfield 51, 3) := by decide +kernel
theorem dX4_oversetInAll_9 : decode cX4_oversetInAll 9 = .ok (.if_icmp .ge 21, 3) := by decide +kernel
theorem dX4_oversetInAll_12 : decode cX4_oversetInAll 12 = .ok (.iload_n 1, 1) := by decide +kernel
theorem dX4_oversetInAll_13 : decode cX4_oversetInAll 13 = .ok (.aload_n 0, 1) := by decide +kernel
theorem dX4_oversetInAll_14 : decode cX4_oversetInAll 14 = .ok (.getfield 17, 3) := by decide +kernel
theorem dX4_oversetInAll_17 : decode cX4_oversetInAll 17 = .ok (.iload_n 2, 1) := by decide +kernel
theorem dX4_oversetInAll_18 : decode cX4_oversetInAll 18 = .ok (.aaload, 1) := by decide +kernel
theorem dX4_oversetInAll_19 : decode cX4_oversetInAll 19 = .ok (.getfield 85, 3) := by decide +kernel
theorem dX4_oversetInAll_22 : decode cX4_oversetInAll 22 = .ok (.iadd, 1) := by decide +kernel
theorem dX4_oversetInAll_23 : decode cX4_oversetInAll 23 = .ok (.istore_n 1, 1) := by decide +kernel
theorem dX4_oversetInAll_24 : decode cX4_oversetInAll 24 = .ok (.iinc 2 1, 3) := by decide +kernel
theorem dX4_oversetInAll_27 : decode cX4_oversetInAll 27 = .ok (.goto (-23), 3) := by decide +kernel
theorem dX4_oversetInAll_30 : decode cX4_oversetInAll 30 = .ok (.iload_n 1, 1) := by decide +kernel
theorem dX4_oversetInAll_31 : decode cX4_oversetInAll 31 = .ok (.ireturn, 1) := by decide +kernel
theorem dX4_jumpsInAll_0 : decode cX4_jumpsInAll 0 = .ok (.iconst 0, 1) := by decide +kernel
theorem dX4_jumpsInAll_1 : decode cX4_jumpsInAll 1 = .ok (.istore_n 1, 1) := by decide +kernel
theorem dX4_jumpsInAll_2 : decode cX4_jumpsInAll 2 = .ok (.iconst 0, 1) := by decide +kernel
theorem dX4_jumpsInAll_3 : decode cX4_jumpsInAll 3 = .ok (.istore_n 2, 1) := by decide +kernel
theorem dX4_jumpsInAll_4 : decode cX4_jumpsInAll 4 = .ok (.iload_n 2, 1) := by decide +kernel
theorem dX4_jumpsInAll_5 : decode cX4_jumpsInAll 5 = .ok (.aload_n 0, 1) := by decide +kernel
theorem dX4_jumpsInAll_6 : decode cX4_jumpsInAll 6 = .ok (.getfield 51, 3) := by decide +kernel
theorem dX4_jumpsInAll_9 : decode cX4_jumpsInAll 9 = .ok (.if_icmp .ge 21, 3) := by decide +kernel
theorem dX4_jumpsInAll_12 : decode cX4_jumpsInAll 12 = .ok (.iload_n 1, 1) := by decide +kernel
theorem dX4_jumpsInAll_13 : decode cX4_jumpsInAll 13 = .ok (.aload_n 0, 1) := by decide +kernel
theorem dX4_jumpsInAll_14 : decode cX4_jumpsInAll 14 = .ok (.getfield 17, 3) := by decide +kernel
theorem dX4_jumpsInAll_17 : decode cX4_jumpsInAll 17 = .ok (.iload_n 2, 1) := by decide +kernel
theorem dX4_jumpsInAll_18 : decode cX4_jumpsInAll 18 = .ok (.aaload, 1) := by decide +kernel
theorem dX4_jumpsInAll_19 : decode cX4_jumpsInAll 19 = .ok (.getfield 88, 3) := by decide +kernel
theorem dX4_jumpsInAll_22 : decode cX4_jumpsInAll 22 = .ok (.iadd, 1) := by decide +kernel
theorem dX4_jumpsInAll_23 : decode cX4_jumpsInAll 23 = .ok (.istore_n 1, 1) := by decide +kernel
theorem dX4_jumpsInAll_24 : decode cX4_jumpsInAll 24 = .ok (.iinc 2 1, 3) := by decide +kernel
theorem dX4_jumpsInAll_27 : decode cX4_jumpsInAll 27 = .ok (.goto (-23), 3) := by decide +kernel
theorem dX4_jumpsInAll_30 : decode cX4_jumpsInAll 30 = .ok (.iload_n 1, 1) := by decide +kernel
theorem dX4_jumpsInAll_31 : decode cX4_jumpsInAll 31 = .ok (.ireturn, 1) := by decide +kernel
theorem dX4_isMoreOverset_0 : decode cX4_isMoreOverset 0 = .ok (.iconst 0, 1) := by decide +kernel
theorem dX4_isMoreOverset_1 : decode cX4_isMoreOverset 1 = .ok (.istore_n 2, 1) := by decide +kernel
theorem dX4_isMoreOverset_2 : decode cX4_isMoreOverset 2 = .ok (.iload_n 2, 1) := by decide +kernel
theorem dX4_isMoreOverset_3 : decode cX4_isMoreOverset 3 = .ok (.aload_n 0, 1) := by decide +kernel
theorem dX4_isMoreOverset_4 : decode cX4_isMoreOverset 4 = .ok (.getfield 51, 3) := by decide +kernel
theorem dX4_isMoreOverset_7 : decode cX4_isMoreOverset 7 = .ok (.if_icmp .ge 32, 3) := by decide +kernel
theorem dX4_isMoreOverset_10 : decode cX4_isMoreOverset 10 = .ok (.aload_n 0, 1) := by decide +kernel
theorem dX4_isMoreOverset_11 : decode cX4_isMoreOverset 11 = .ok (.getfield 17, 3) := by decide +kernel
theorem dX4_isMoreOverset_14 : decode cX4_isMoreOverset 14 = .ok (.iload_n 2, 1) := by decide +kernel
theorem dX4_isMoreOverset_15 : decode cX4_isMoreOverset 15 = .ok (.aaload, 1) := by decide +kernel
theorem dX4_isMoreOverset_16 : decode cX4_isMoreOverset 16 = .ok (.getfield 85, 3) := by decide +kernel
theorem dX4_isMoreOverset_19 : decode cX4_isMoreOverset 19 = .ok (.aload_n 1, 1) := by decide +kernel
theorem dX4_isMoreOverset_20 : decode cX4_isMoreOverset 20 = .ok (.getfield 17, 3) := by decide +kernel
theorem dX4_isMoreOverset_23 : decode cX4_isMoreOverset 23 = .ok (.iload_n 2, 1) := by decide +kernel
theorem dX4_isMoreOverset_24 : decode cX4_isMoreOverset 24 = .ok (.aaload, 1) := by decide +kernel
theorem dX4_isMoreOverset_25 : decode cX4_isMoreOverset 25 = .ok (.getfield 85, 3) := by decide +kernel
theorem dX4_isMoreOverset_28 : decode cX4_isMoreOverset 28 = .ok (.if_icmp .le 5, 3) := by decide +kernel
theorem dX4_isMoreOverset_31 : decode cX4_isMoreOverset 31 = .ok (.iconst 1, 1) := by decide +kernel
theorem dX4_isMoreOverset_32 : decode cX4_isMoreOverset 32 = .ok (.ireturn, 1) := by decide +kernel
theorem dX4_isMoreOverset_33 : decode cX4_isMoreOverset 33 = .ok (.iinc 2 1, 3) := by decide +kernel
theorem dX4_isMoreOverset_36 : decode cX4_isMoreOverset 36 = .ok (.goto (-34), 3) := by decide +kernel
theorem dX4_isMoreOverset_39 : decode cX4_isMoreOverset 39 = .ok (.iconst 0, 1) := by decide +kernel
theorem dX4_isMoreOverset_40 : decode cX4_isMoreOverset 40 = .ok (.ireturn, 1) := by decide +kernel
theorem dX5_copyFrom_0 : decode cX5_copyFrom 0 = .ok (.aload_n 0, 1) := by decide +kernel
theorem dX5_copyFrom_1 : decode cX5_copyFrom 1 = .ok (.aload_n 1, 1) := by decide +kernel
theorem dX5_copyFrom_2 : decode cX5_copyFrom 2 = .ok (.getfield 9, 3) := by decide +kernel
theorem dX5_copyFrom_5 : decode cX5_copyFrom 5 = .ok (.putfield 9, 3) := by decide +kernel
theorem dX5_copyFrom_8 : decode cX5_copyFrom 8 = .ok (.aload_n 0, 1) := by decide +kernel
theorem dX5_copyFrom_9 : decode cX5_copyFrom 9 = .ok (.aload_n 1, 1) := by decide +kernel
theorem dX5_copyFrom_10 : decode cX5_copyFrom 10 = .ok (.getfield 15, 3) := by decide +kernel
theorem dX5_copyFrom_13 : decode cX5_copyFrom 13 = .ok (.putfield 15, 3) := by decide +kernel
theorem dX5_copyFrom_16 : decode cX5_copyFrom 16 = .ok (.aload_n 0, 1) := by decide +kernel
theorem dX5_copyFrom_17 : decode cX5_copyFrom 17 = .ok (.aload_n 1, 1) := by decide +kernel
theorem dX5_copyFrom_18 : decode cX5_copyFrom 18 = .ok (.getfield 18, 3) := by decide +kernel
theorem dX5_copyFrom_21 : decode cX5_copyFrom 21 = .ok (.putfield 18, 3) := by decide +kernel
theorem dX5_copyFrom_24 : decode cX5_copyFrom 24 = .ok (.aload_n 0, 1) := by decide +kernel
theorem dX5_copyFrom_25 : decode cX5_copyFrom 25 = .ok (.aload_n 1, 1) := by decide +kernel
theorem dX5_copyFrom_26 : decode cX5_copyFrom 26 = .ok (.getfield 21, 3) := by decide +kernel
theorem dX5_copyFrom_29 : decode cX5_copyFrom 29 = .ok (.putfield 21, 3) := by decide +kernel
theorem dX5_copyFrom_32 : decode cX5_copyFrom 32 = .ok (.aload_n 0, 1) := by decide +kernel
theorem dX5_copyFrom_33 : decode cX5_copyFrom 33 = .ok (.aload_n 1, 1) := by decide +kernel
theorem dX5_copyFrom_34 : decode cX5_copyFrom 34 = .ok (.getfield 24, 3) := by decide +kernel
theorem dX5_copyFrom_37 : decode cX5_copyFrom 37 = .ok (.putfield 24, 3) := by decide +kernel
theorem dX5_copyFrom_40 : decode cX5_copyFrom 40 = .ok (.aload_n 0, 1) := by decide +kernel
theorem dX5_copyFrom_41 : decode cX5_copyFrom 41 = .ok (.aload_n 1, 1) := by decide +kernel
theorem dX5_copyFrom_42 : decode cX5_copyFrom 42 = .ok (.getfield 28, 3) := by decide +kernel
theorem dX5_copyFrom_45 : decode cX5_copyFrom 45 = .ok (.putfield 28, 3) := by decide +kernel
theorem dX5_copyFrom_48 : decode cX5_copyFrom 48 = .ok (.aload_n 0, 1) := by decide +kernel
theorem dX5_copyFrom_49 : decode cX5_copyFrom 49 = .ok (.aload_n 1, 1) := by decide +kernel
theorem dX5_copyFrom_50 : decode cX5_copyFrom 50 = .ok (.getfield 31, 3) := by decide +kernel
theorem dX5_copyFrom_53 : decode cX5_copyFrom 53 = .ok (.putfield 31, 3) := by decide +kernel
theorem dX5_copyFrom_56 : decode cX5_copyFrom 56 = .ok (.aload_n 0, 1) := by decide +kernel
theorem dX5_copyFrom_57 : decode cX5_copyFrom 57 = .ok (.aload_n 1, 1) := by decide +kernel
theorem dX5_copyFrom_58 : decode cX5_copyFrom 58 = .ok (.getfield 34, 3) := by decide +kernel
theorem dX5_copyFrom_61 : decode cX5_copyFrom 61 = .ok (.putfield 34, 3) := by decide +kernel
theorem dX5_copyFrom_64 : decode cX5_copyFrom 64 = .ok (.return_, 1) := by decide +kernel
theorem dX6_hasFailed_0 : decode cX6_hasFailed 0 = .ok (.aload_n 0, 1) := by decide +kernel
theorem dX6_hasFailed_1 : decode cX6_hasFailed 1 = .ok (.getfield 25, 3) := by decide +kernel
theorem dX6_hasFailed_4 : decode cX6_hasFailed 4 = .ok (.iconst (-1), 1) := by decide +kernel
theorem dX6_hasFailed_5 : decode cX6_hasFailed 5 = .ok (.if_icmp .eq 7, 3) := by decide +kernel
theorem dX6_hasFailed_8 : decode cX6_hasFailed 8 = .ok (.iconst 1, 1) := by decide +kernel
theorem dX6_hasFailed_9 : decode cX6_hasFailed 9 = .ok (.goto 4, 3) := by decide +kernel
theorem dX6_hasFailed_12 : decode cX6_hasFailed 12 = .ok (.iconst 0, 1) := by decide +kernel
theorem dX6_hasFailed_13 : decode cX6_hasFailed 13 = .ok (.ireturn, 1) := by decide +kernel
theorem dX6_nextSign_0 : decode cX6_nextSign 0 = .ok (.aload_n 0, 1) := by decide +kernel
theorem dX6_nextSign_1 : decode cX6_nextSign 1 = .ok (.getfield 36, 3) := by decide +kernel
theorem dX6_nextSign_4 : decode cX6_nextSign 4 = .ok (.aload_n 0, 1) := by decide +kernel
theorem dX6_nextSign_5 : decode cX6_nextSign 5 = .ok (.getfield 12, 3) := by decide +kernel
theorem dX6_nextSign_8 : decode cX6_nextSign 8 = .ok (.getfield 104, 3) := by decide +kernel
theorem dX6_nextSign_11 : decode cX6_nextSign 11 = .ok (.if_icmp .ge 33, 3) := by decide +kernel
theorem dX6_nextSign_14 : decode cX6_nextSign 14 = .ok (.aload_n 0, 1) := by decide +kernel
theorem dX6_nextSign_15 : decode cX6_nextSign 15 = .ok (.getfield 12, 3) := by decide +kernel
theorem dX6_nextSign_18 : decode cX6_nextSign 18 = .ok (.getfield 105, 3) := by decide +kernel
theorem dX6_nextSign_21 : decode cX6_nextSign 21 = .ok (.aload_n 0, 1) := by decide +kernel
theorem dX6_nextSign_22 : decode cX6_nextSign 22 = .ok (.getfield 36, 3) := by decide +kernel
theorem dX6_nextSign_25 : decode cX6_nextSign 25 = .ok (.iaload, 1) := by decide +kernel
theorem dX6_nextSign_26 : decode cX6_nextSign 26 = .ok (.bipush 32, 2) := by decide +kernel
theorem dX6_nextSign_28 : decode cX6_nextSign 28 = .ok (.if_icmp .ne 16, 3) := by decide +kernel
theorem dX6_nextSign_31 : decode cX6_nextSign 31 = .ok (.aload_n 0, 1) := by decide +kernel
theorem dX6_nextSign_32 : decode cX6_nextSign 32 = .ok (.dup, 1) := by decide +kernel
theorem dX6_nextSign_33 : decode cX6_nextSign 33 = .ok (.getfield 36, 3) := by decide +kernel
theorem dX6_nextSign_36 : decode cX6_nextSign 36 = .ok (.iconst 1, 1) := by decide +kernel
theorem dX6_nextSign_37 : decode cX6_nextSign 37 = .ok (.iadd, 1) := by decide +kernel
theorem dX6_nextSign_38 : decode cX6_nextSign 38 = .ok (.putfield 36, 3) := by decide +kernel
theorem dX6_nextSign_41 : decode cX6_nextSign 41 = .ok (.goto (-41), 3) := by decide +kernel
theorem dX6_nextSign_44 : decode cX6_nextSign 44 = .ok (.aload_n 0, 1) := by decide +kernel
theorem dX6_nextSign_45 : decode cX6_nextSign 45 = .ok (.getfield 36, 3) := by decide +kernel
theorem dX6_nextSign_48 : decode cX6_nextSign 48 = .ok (.aload_n 0, 1) := by decide +kernel
theorem dX6_nextSign_49 : decode cX6_nextSign 49 = .ok (.getfield 12, 3) := by decide +kernel
theorem dX6_nextSign_52 : decode cX6_nextSign 52 = .ok (.getfield 104, 3) := by decide +kernel
theorem dX6_nextSign_55 : decode cX6_nextSign 55 = .ok (.if_icmp .ge 18, 3) := by decide +kernel
theorem dX6_nextSign_58 : decode cX6_nextSign 58 = .ok (.aload_n 0, 1) := by decide +kernel
theorem dX6_nextSign_59 : decode cX6_nextSign 59 = .ok (.getfield 12, 3) := by decide +kernel
theorem dX6_nextSign_62 : decode cX6_nextSign 62 = .ok (.getfield 105, 3) := by decide +kernel
theorem dX6_nextSign_65 : decode cX6_nextSign 65 = .ok (.aload_n 0, 1) := by decide +kernel
theorem dX6_nextSign_66 : decode cX6_nextSign 66 = .ok (.getfield 36, 3) := by decide +kernel
theorem dX6_nextSign_69 : decode cX6_nextSign 69 = .ok (.iaload, 1) := by decide +kernel
theorem dX6_nextSign_70 : decode cX6_nextSign 70 = .ok (.goto 4, 3) := by decide +kernel
theorem dX6_nextSign_73 : decode cX6_nextSign 73 = .ok (.iconst 0, 1) := by decide +kernel
theorem dX6_nextSign_74 : decode cX6_nextSign 74 = .ok (.ireturn, 1) := by decide +kernel
theorem dX7_snapshotCount_0 : decode cX7_snapshotCount 0 = .ok (.iconst 0, 1) := by decide +kernel
theorem dX7_snapshotCount_1 : decode cX7_snapshotCount 1 = .ok (.istore_n 1, 1) := by decide +kernel
theorem dX7_snapshotCount_2 : decode cX7_snapshotCount 2 = .ok (.iconst 0, 1) := by decide +kernel
theorem dX7_snapshotCount_3 : decode cX7_snapshotCount 3 = .ok (.istore_n 2, 1) := by decide +kernel
theorem dX7_snapshotCount_4 : decode cX7_snapshotCount 4 = .ok (.iload_n 2, 1) := by decide +kernel
theorem dX7_snapshotCount_5 : decode cX7_snapshotCount 5 = .ok (.iconst 2, 1) := by decide +kernel
theorem dX7_snapshotCount_6 : decode cX7_snapshotCount 6 = .ok (.if_icmp .ge 21, 3) := by decide +kernel
theorem dX7_snapshotCount_9 : decode cX7_snapshotCount 9 = .ok (.aload_n 0, 1) := by decide +kernel
theorem dX7_snapshotCount_10 : decode cX7_snapshotCount 10 = .ok (.getfield 22, 3) := by decide +kernel
theorem dX7_snapshotCount_13 : decode cX7_snapshotCount 13 = .ok (.iload_n 2, 1) := by decide +kernel
theorem dX7_snapshotCount_14 : decode cX7_snapshotCount 14 = .ok (.baload, 1) := by decide +kernel
theorem dX7_snapshotCount_15 : decode cX7_snapshotCount 15 = .ok (.ifCond .eq 6, 3) := by decide +kernel
theorem dX7_snapshotCount_18 : decode cX7_snapshotCount 18 = .ok (.iinc 1 1, 3) := by decide +kernel
theorem dX7_snapshotCount_21 : decode cX7_snapshotCount 21 = .ok (.iinc 2 1, 3) := by decide +kernel
theorem dX7_snapshotCount_24 : decode cX7_snapshotCount 24 = .ok (.goto (-20), 3) := by decide +kernel
theorem dX7_snapshotCount_27 : decode cX7_snapshotCount 27 = .ok (.iload_n 1, 1) := by decide +kernel
theorem dX7_snapshotCount_28 : decode cX7_snapshotCount 28 = .ok (.ireturn, 1) := by decide +kernel
theorem dX10_clearText_0 : decode cX10_clearText 0 = .ok (.aload_n 0, 1) := by decide +kernel
theorem dX10_clearText_1 : decode cX10_clearText 1 = .ok (.getfield 34, 3) := by decide +kernel
theorem dX10_clearText_4 : decode cX10_clearText 4 = .ok (.getfield 189, 3) := by decide +kernel
theorem dX10_clearText_7 : decode cX10_clearText 7 = .ok (.istore_n 1, 1) := by decide +kernel
theorem dX10_clearText_8 : decode cX10_clearText 8 = .ok (.aload_n 0, 1) := by decide +kernel
theorem dX10_clearText_9 : decode cX10_clearText 9 = .ok (.getfield 34, 3) := by decide +kernel
theorem dX10_clearText_12 : decode cX10_clearText 12 = .ok (.iconst 0, 1) := by decide +kernel
theorem dX10_clearText_13 : decode cX10_clearText 13 = .ok (.putfield 189, 3) := by decide +kernel
theorem dX10_clearText_16 : decode cX10_clearText 16 = .ok (.iload_n 1, 1) := by decide +kernel
theorem dX10_clearText_17 : decode cX10_clearText 17 = .ok (.ireturn, 1) := by decide +kernel
theorem dX10_isWithin_0 : decode cX10_isWithin 0 = .ok (.iload_n 0, 1) := by decide +kernel
theorem dX10_isWithin_1 : decode cX10_isWithin 1 = .ok (.iload_n 1, 1) := by decide +kernel
theorem dX10_isWithin_2 : decode cX10_isWithin 2 = .ok (.if_icmp .lt 12, 3) := by decide +kernel
theorem dX10_isWithin_5 : decode cX10_isWithin 5 = .ok (.iload_n 0, 1) := by decide +kernel
theorem dX10_isWithin_6 : decode cX10_isWithin 6 = .ok (.iload_n 2, 1) := by decide +kernel
theorem dX10_isWithin_7 : decode cX10_isWithin 7 = .ok (.if_icmp .gt 7, 3) := by decide +kernel
theorem dX10_isWithin_10 : decode cX10_isWithin 10 = .ok (.iconst 1, 1) := by decide +kernel
theorem dX10_isWithin_11 : decode cX10_isWithin 11 = .ok (.goto 4, 3) := by decide +kernel
theorem dX10_isWithin_14 : decode cX10_isWithin 14 = .ok (.iconst 0, 1) := by decide +kernel
theorem dX10_isWithin_15 : decode cX10_isWithin 15 = .ok (.ireturn, 1) := by decide +kernel
theorem dX10_moduleAt_0 : decode cX10_moduleAt 0 = .ok (.iload_n 0, 1) := by decide +kernel
theorem dX10_moduleAt_1 : decode cX10_moduleAt 1 = .ok (.bipush 120, 2) := by decide +kernel
theorem dX10_moduleAt_3 : decode cX10_moduleAt 3 = .ok (.imul, 1) := by decide +kernel
theorem dX10_moduleAt_4 : decode cX10_moduleAt 4 = .ok (.iload_n 1, 1) := by decide +kernel
theorem dX10_moduleAt_5 : decode cX10_moduleAt 5 = .ok (.bipush 20, 2) := by decide +kernel
theorem dX10_moduleAt_7 : decode cX10_moduleAt 7 = .ok (.imul, 1) := by decide +kernel
theorem dX10_moduleAt_8 : decode cX10_moduleAt 8 = .ok (.iadd, 1) := by decide +kernel
theorem dX10_moduleAt_9 : decode cX10_moduleAt 9 = .ok (.iload_n 2, 1) := by decide +kernel
theorem dX10_moduleAt_10 : decode cX10_moduleAt 10 = .ok (.iadd, 1) := by decide +kernel
theorem dX10_moduleAt_11 : decode cX10_moduleAt 11 = .ok (.ireturn, 1) := by decide +kernel
theorem dX10_pageOf_0 : decode cX10_pageOf 0 = .ok (.iload_n 0, 1) := by decide +kernel
theorem dX10_pageOf_1 : decode cX10_pageOf 1 = .ok (.bipush 120, 2) := by decide +kernel
theorem dX10_pageOf_3 : decode cX10_pageOf 3 = .ok (.idiv, 1) := by decide +kernel
theorem dX10_pageOf_4 : decode cX10_pageOf 4 = .ok (.ireturn, 1) := by decide +kernel
theorem dX10_columnOf_0 : decode cX10_columnOf 0 = .ok (.iload_n 0, 1) := by decide +kernel
theorem dX10_columnOf_1 : decode cX10_columnOf 1 = .ok (.bipush 120, 2) := by decide +kernel
theorem dX10_columnOf_3 : decode cX10_columnOf 3 = .ok (.irem, 1) := by decide +kernel
theorem dX10_columnOf_4 : decode cX10_columnOf 4 = .ok (.bipush 20, 2) := by decide +kernel
theorem dX10_columnOf_6 : decode cX10_columnOf 6 = .ok (.idiv, 1) := by decide +kernel
theorem dX10_columnOf_7 : decode cX10_columnOf 7 = .ok (.ireturn, 1) := by decide +kernel
theorem dX10_rowOf_0 : decode cX10_rowOf 0 = .ok (.iload_n 0, 1) := by decide +kernel
theorem dX10_rowOf_1 : decode cX10_rowOf 1 = .ok (.bipush 20, 2) := by decide +kernel
theorem dX10_rowOf_3 : decode cX10_rowOf 3 = .ok (.irem, 1) := by decide +kernel
theorem dX10_rowOf_4 : decode cX10_rowOf 4 = .ok (.ireturn, 1) := by decide +kernel
theorem dX10_differenceOfRuns_0 : decode cX10_differenceOfRuns 0 = .ok (.iload_n 0, 1) := by decide +kernel
theorem dX10_differenceOfRuns_1 : decode cX10_differenceOfRuns 1 = .ok (.iload_n 1, 1) := by decide +kernel
theorem dX10_differenceOfRuns_2 : decode cX10_differenceOfRuns 2 = .ok (.iadd, 1) := by decide +kernel
theorem dX10_differenceOfRuns_3 : decode cX10_differenceOfRuns 3 = .ok (.iconst 1, 1) := by decide +kernel
theorem dX10_differenceOfRuns_4 : decode cX10_differenceOfRuns 4 = .ok (.isub, 1) := by decide +kernel
theorem dX10_differenceOfRuns_5 : decode cX10_differenceOfRuns 5 = .ok (.istore 4, 2) := by decide +kernel
theorem dX10_differenceOfRuns_7 : decode cX10_differenceOfRuns 7 = .ok (.iload_n 2, 1) := by decide +kernel
theorem dX10_differenceOfRuns_8 : decode cX10_differenceOfRuns 8 = .ok (.iload_n 3, 1) := by decide +kernel
theorem dX10_differenceOfRuns_9 : decode cX10_differenceOfRuns 9 = .ok (.iadd, 1) := by decide +kernel
theorem dX10_differenceOfRuns_10 : decode cX10_differenceOfRuns 10 = .ok (.iconst 1, 1) := by decide +kernel
theorem dX10_differenceOfRuns_11 : decode cX10_differenceOfRuns 11 = .ok (.isub, 1) := by decide +kernel
theorem dX10_differenceOfRuns_12 : decode cX10_differenceOfRuns 12 = .ok (.istore 5, 2) := by decide +kernel
theorem dX10_differenceOfRuns_14 : decode cX10_differenceOfRuns 14 = .ok (.iload 4, 2) := by decide +kernel
theorem dX10_differenceOfRuns_16 : decode cX10_differenceOfRuns 16 = .ok (.iload_n 2, 1) := by decide +kernel
theorem dX10_differenceOfRuns_17 : decode cX10_differenceOfRuns 17 = .ok (.if_icmp .ge 8, 3) := by decide +kernel
theorem dX10_differenceOfRuns_20 : decode cX10_differenceOfRuns 20 = .ok (.iload_n 2, 1) := by decide +kernel
theorem dX10_differenceOfRuns_21 : decode cX10_differenceOfRuns 21 = .ok (.iload 4, 2) := by decide +kernel
theorem dX10_differenceOfRuns_23 : decode cX10_differenceOfRuns 23 = .ok (.isub, 1) := by decide +kernel
theorem dX10_differenceOfRuns_24 : decode cX10_differenceOfRuns 24 = .ok (.ireturn, 1) := by decide +kernel
theorem dX10_differenceOfRuns_25 : decode cX10_differenceOfRuns 25 = .ok (.iload_n 0, 1) := by decide +kernel
theorem dX10_differenceOfRuns_26 : decode cX10_differenceOfRuns 26 = .ok (.iload 5, 2) := by decide +kernel
theorem dX10_differenceOfRuns_28 : decode cX10_differenceOfRuns 28 = .ok (.if_icmp .le 10, 3) := by decide +kernel
theorem dX10_differenceOfRuns_31 : decode cX10_differenceOfRuns 31 = .ok (.iload_n 0, 1) := by decide +kernel
theorem dX10_differenceOfRuns_32 : decode cX10_differenceOfRuns 32 = .ok (.iload 5, 2) := by decide +kernel
theorem dX10_differenceOfRuns_34 : decode cX10_differenceOfRuns 34 = .ok (.isub, 1) := by decide +kernel
theorem dX10_differenceOfRuns_35 : decode cX10_differenceOfRuns 35 = .ok (.goto 4, 3) := by decide +kernel
theorem dX10_differenceOfRuns_38 : decode cX10_differenceOfRuns 38 = .ok (.iconst 0, 1) := by decide +kernel
theorem dX10_differenceOfRuns_39 : decode cX10_differenceOfRuns 39 = .ok (.ireturn, 1) := by decide +kernel
theorem dX11_in_0 : decode cX11_in 0 = .ok (.iload_n 0, 1) := by decide +kernel
theorem dX11_in_1 : decode cX11_in 1 = .ok (.iload_n 1, 1) := by decide +kernel
theorem dX11_in_2 : decode cX11_in 2 = .ok (.if_icmp .lt 12, 3) := by decide +kernel
theorem dX11_in_5 : decode cX11_in 5 = .ok (.iload_n 0, 1) := by decide +kernel
theorem dX11_in_6 : decode cX11_in 6 = .ok (.iload_n 2, 1) := by decide +kernel
theorem dX11_in_7 : decode cX11_in 7 = .ok (.if_icmp .gt 7, 3) := by decide +kernel
theorem dX11_in_10 : decode cX11_in 10 = .ok (.iconst 1, 1) := by decide +kernel
theorem dX11_in_11 : decode cX11_in 11 = .ok (.goto 4, 3) := by decide +kernel
theorem dX11_in_14 : decode cX11_in 14 = .ok (.iconst 0, 1) := by decide +kernel
theorem dX11_in_15 : decode cX11_in 15 = .ok (.ireturn, 1) := by decide +kernel
theorem dX11_more_0 : decode cX11_more 0 = .ok (.iload_n 0, 1) := by decide +kernel
theorem dX11_more_1 : decode cX11_more 1 = .ok (.iload_n 1, 1) := by decide +kernel
theorem dX11_more_2 : decode cX11_more 2 = .ok (.if_icmp .le 7, 3) := by decide +kernel
theorem dX11_more_5 : decode cX11_more 5 = .ok (.iload_n 0, 1) := by decide +kernel
theorem dX11_more_6 : decode cX11_more 6 = .ok (.goto 4, 3) := by decide +kernel
theorem dX11_more_9 : decode cX11_more 9 = .ok (.iload_n 1, 1) := by decide +kernel
theorem dX11_more_10 : decode cX11_more 10 = .ok (.ireturn, 1) := by decide +kernel
theorem dX11_apart_0 : decode cX11_apart 0 = .ok (.iload_n 0, 1) := by decide +kernel
theorem dX11_apart_1 : decode cX11_apart 1 = .ok (.iload_n 1, 1) := by decide +kernel
theorem dX11_apart_2 : decode cX11_apart 2 = .ok (.if_icmp .ge 9, 3) := by decide +kernel
theorem dX11_apart_5 : decode cX11_apart 5 = .ok (.iload_n 1, 1) := by decide +kernel
theorem dX11_apart_6 : decode cX11_apart 6 = .ok (.iload_n 0, 1) := by decide +kernel
theorem dX11_apart_7 : decode cX11_apart 7 = .ok (.isub, 1) := by decide +kernel
theorem dX11_apart_8 : decode cX11_apart 8 = .ok (.goto 6, 3) := by decide +kernel
theorem dX11_apart_11 : decode cX11_apart 11 = .ok (.iload_n 0, 1) := by decide +kernel
theorem dX11_apart_12 : decode cX11_apart 12 = .ok (.iload_n 1, 1) := by decide +kernel
theorem dX11_apart_13 : decode cX11_apart 13 = .ok (.isub, 1) := by decide +kernel
theorem dX11_apart_14 : decode cX11_apart 14 = .ok (.ireturn, 1) := by decide +kernel
theorem dX11_act_0 : decode cX11_act 0 = .ok (.aload_n 0, 1) := by decide +kernel
theorem dX11_act_1 : decode cX11_act 1 = .ok (.getfield 41, 3) := by decide +kernel
theorem dX11_act_4 : decode cX11_act 4 = .ok (.iconst 5, 1) := by decide +kernel
theorem dX11_act_5 : decode cX11_act 5 = .ok (.if_icmp .ne 44, 3) := by decide +kernel
theorem dX11_act_8 : decode cX11_act 8 = .ok (.iconst 0, 1) := by decide +kernel
theorem dX11_act_9 : decode cX11_act 9 = .ok (.istore_n 1, 1) := by decide +kernel
theorem dX11_act_10 : decode cX11_act 10 = .ok (.iload_n 1, 1) := by decide +kernel
theorem dX11_act_11 : decode cX11_act 11 = .ok (.sipush 1628, 3) := by decide +kernel
theorem dX11_act_14 : decode cX11_act 14 = .ok (.if_icmp .ge 25, 3) := by decide +kernel
theorem dX11_act_17 : decode cX11_act 17 = .ok (.aload_n 0, 1) := by decide +kernel
theorem dX11_act_18 : decode cX11_act 18 = .ok (.getfield 16, 3) := by decide +kernel
theorem dX11_act_21 : decode cX11_act 21 = .ok (.iload_n 1, 1) := by decide +kernel
theorem dX11_act_22 : decode cX11_act 22 = .ok (.aload_n 0, 1) := by decide +kernel
theorem dX11_act_23 : decode cX11_act 23 = .ok (.getfield 16, 3) := by decide +kernel
theorem dX11_act_26 : decode cX11_act 26 = .ok (.iload_n 1, 1) := by decide +kernel
theorem dX11_act_27 : decode cX11_act 27 = .ok (.sipush 407, 3) := by decide +kernel
theorem dX11_act_30 : decode cX11_act 30 = .ok (.iadd, 1) := by decide +kernel
theorem dX11_act_31 : decode cX11_act 31 = .ok (.iaload, 1) := by decide +kernel
theorem dX11_act_32 : decode cX11_act 32 = .ok (.iastore, 1) := by decide +kernel
theorem dX11_act_33 : decode cX11_act 33 = .ok (.iinc 1 1, 3) := by decide +kernel
theorem dX11_act_36 : decode cX11_act 36 = .ok (.goto (-26), 3) := by decide +kernel
theorem dX11_act_39 : decode cX11_act 39 = .ok (.aload_n 0, 1) := by decide +kernel
theorem dX11_act_40 : decode cX11_act 40 = .ok (.dup, 1) := by decide +kernel
theorem dX11_act_41 : decode cX11_act 41 = .ok (.getfield 41, 3) := by decide +kernel
theorem dX11_act_44 : decode cX11_act 44 = .ok (.iconst 1, 1) := by decide +kernel
theorem dX11_act_45 : decode cX11_act 45 = .ok (.isub, 1) := by decide +kernel
theorem dX11_act_46 : decode cX11_act 46 = .ok (.putfield 41, 3) := by decide +kernel
theorem dX11_act_49 : decode cX11_act 49 = .ok (.iconst 0, 1) := by decide +kernel
theorem dX11_act_50 : decode cX11_act 50 = .ok (.istore_n 1, 1) := by decide +kernel
theorem dX11_act_51 : decode cX11_act 51 = .ok (.iload_n 1, 1) := by decide +kernel
theorem dX11_act_52 : decode cX11_act 52 = .ok (.sipush 407, 3) := by decide +kernel
theorem dX11_act_55 : decode cX11_act 55 = .ok (.if_icmp .ge 30, 3) := by decide +kernel
theorem dX11_act_58 : decode cX11_act 58 = .ok (.aload_n 0, 1) := by decide +kernel
theorem dX11_act_59 : decode cX11_act 59 = .ok (.getfield 16, 3) := by decide +kernel
theorem dX11_act_62 : decode cX11_act 62 = .ok (.sipush 407, 3) := by decide +kernel
theorem dX11_act_65 : decode cX11_act 65 = .ok (.aload_n 0, 1) := by decide +kernel
theorem dX11_act_66 : decode cX11_act 66 = .ok (.getfield 41, 3) := by decide +kernel
theorem dX11_act_69 : decode cX11_act 69 = .ok (.imul, 1) := by decide +kernel
theorem dX11_act_70 : decode cX11_act 70 = .ok (.iload_n 1, 1) := by decide +kernel
theorem dX11_act_71 : decode cX11_act 71 = .ok (.iadd, 1) := by decide +kernel
theorem dX11_act_72 : decode cX11_act 72 = .ok (.aload_n 0, 1) := by decide +kernel
theorem dX11_act_73 : decode cX11_act 73 = .ok (.getfield 7, 3) := by decide +kernel
theorem dX11_act_76 : decode cX11_act 76 = .ok (.iload_n 1, 1) := by decide +kernel
theorem dX11_act_77 : decode cX11_act 77 = .ok (.iaload, 1) := by decide +kernel
theorem dX11_act_78 : decode cX11_act 78 = .ok (.iastore, 1) := by decide +kernel
theorem dX11_act_79 : decode cX11_act 79 = .ok (.iinc 1 1, 3) := by decide +kernel
theorem dX11_act_82 : decode cX11_act 82 = .ok (.goto (-31), 3) := by decide +kernel
theorem dX11_act_85 : decode cX11_act 85 = .ok (.aload_n 0, 1) := by decide +kernel
theorem dX11_act_86 : decode cX11_act 86 = .ok (.dup, 1) := by decide +kernel
theorem dX11_act_87 : decode cX11_act 87 = .ok (.getfield 41, 3) := by decide +kernel
theorem dX11_act_90 : decode cX11_act 90 = .ok (.iconst 1, 1) := by decide +kernel
theorem dX11_act_91 : decode cX11_act 91 = .ok (.iadd, 1) := by decide +kernel
theorem dX11_act_92 : decode cX11_act 92 = .ok (.putfield 41, 3) := by decide +kernel
theorem dX11_act_95 : decode cX11_act 95 = .ok (.return_, 1) := by decide +kernel
theorem dX11_hold_0 : decode cX11_hold 0 = .ok (.iconst 0, 1) := by decide +kernel
theorem dX11_hold_1 : decode cX11_hold 1 = .ok (.istore_n 1, 1) := by decide +kernel
theorem dX11_hold_2 : decode cX11_hold 2 = .ok (.iload_n 1, 1) := by decide +kernel
theorem dX11_hold_3 : decode cX11_hold 3 = .ok (.sipush 407, 3) := by decide +kernel
theorem dX11_hold_6 : decode cX11_hold 6 = .ok (.if_icmp .ge 21, 3) := by decide +kernel
theorem dX11_hold_9 : decode cX11_hold 9 = .ok (.aload_n 0, 1) := by decide +kernel
theorem dX11_hold_10 : decode cX11_hold 10 = .ok (.getfield 13, 3) := by decide +kernel
theorem dX11_hold_13 : decode cX11_hold 13 = .ok (.iload_n 1, 1) := by decide +kernel
theorem dX11_hold_14 : decode cX11_hold 14 = .ok (.aload_n 0, 1) := by decide +kernel
theorem dX11_hold_15 : decode cX11_hold 15 = .ok (.getfield 7, 3) := by decide +kernel
theorem dX11_hold_18 : decode cX11_hold 18 = .ok (.iload_n 1, 1) := by decide +kernel
theorem dX11_hold_19 : decode cX11_hold 19 = .ok (.iaload, 1) := by decide +kernel
theorem dX11_hold_20 : decode cX11_hold 20 = .ok (.iastore, 1) := by decide +kernel
theorem dX11_hold_21 : decode cX11_hold 21 = .ok (.iinc 1 1, 3) := by decide +kernel
theorem dX11_hold_24 : decode cX11_hold 24 = .ok (.goto (-22), 3) := by decide +kernel
theorem dX11_hold_27 : decode cX11_hold 27 = .ok (.return_, 1) := by decide +kernel
theorem dX11_exchange_0 : decode cX11_exchange 0 = .ok (.iconst 0, 1) := by decide +kernel
theorem dX11_exchange_1 : decode cX11_exchange 1 = .ok (.istore_n 1, 1) := by decide +kernel
theorem dX11_exchange_2 : decode cX11_exchange 2 = .ok (.iload_n 1, 1) := by decide +kernel
theorem dX11_exchange_3 : decode cX11_exchange 3 = .ok (.sipush 407, 3) := by decide +kernel
theorem dX11_exchange_6 : decode cX11_exchange 6 = .ok (.if_icmp .ge 35, 3) := by decide +kernel
theorem dX11_exchange_9 : decode cX11_exchange 9 = .ok (.aload_n 0, 1) := by decide +kernel
theorem dX11_exchange_10 : decode cX11_exchange 10 = .ok (.getfield 7, 3) := by decide +kernel
theorem dX11_exchange_13 : decode cX11_exchange 13 = .ok (.iload_n 1, 1) := by decide +kernel
theorem dX11_exchange_14 : decode cX11_exchange 14 = .ok (.iaload, 1) := by decide +kernel
theorem dX11_exchange_15 : decode cX11_exchange 15 = .ok (.istore_n 2, 1) := by decide +kernel
theorem dX11_exchange_16 : decode cX11_exchange 16 = .ok (.aload_n 0, 1) := by decide +kernel
theorem dX11_exchange_17 : decode cX11_exchange 17 = .ok (.getfield 7, 3) := by decide +kernel
theorem dX11_exchange_20 : decode cX11_exchange 20 = .ok (.iload_n 1, 1) := by decide +kernel
theorem dX11_exchange_21 : decode cX11_exchange 21 = .ok (.aload_n 0, 1) := by decide +kernel
theorem dX11_exchange_22 : decode cX11_exchange 22 = .ok (.getfield 13, 3) := by decide +kernel
theorem dX11_exchange_25 : decode cX11_exchange 25 = .ok (.iload_n 1, 1) := by decide +kernel
theorem dX11_exchange_26 : decode cX11_exchange 26 = .ok (.iaload, 1) := by decide +kernel
theorem dX11_exchange_27 : decode cX11_exchange 27 = .ok (.iastore, 1) := by decide +kernel
theorem dX11_exchange_28 : decode cX11_exchange 28 = .ok (.aload_n 0, 1) := by decide +kernel
theorem dX11_exchange_29 : decode cX11_exchange 29 = .ok (.getfield 13, 3) := by decide +kernel
theorem dX11_exchange_32 : decode cX11_exchange 32 = .ok (.iload_n 1, 1) := by decide +kernel
theorem dX11_exchange_33 : decode cX11_exchange 33 = .ok (.iload_n 2, 1) := by decide +kernel
theorem dX11_exchange_34 : decode cX11_exchange 34 = .ok (.iastore, 1) := by decide +kernel
theorem dX11_exchange_35 : decode cX11_exchange 35 = .ok (.iinc 1 1, 3) := by decide +kernel
theorem dX11_exchange_38 : decode cX11_exchange 38 = .ok (.goto (-36), 3) := by decide +kernel
theorem dX11_exchange_41 : decode cX11_exchange 41 = .ok (.return_, 1) := by decide +kernel
theorem dX11_of_0 : decode cX11_of 0 = .ok (.aload_n 0, 1) := by decide +kernel
theorem dX11_of_1 : decode cX11_of 1 = .ok (.getfield 7, 3) := by decide +kernel
theorem dX11_of_4 : decode cX11_of 4 = .ok (.iconst 5, 1) := by decide +kernel
theorem dX11_of_5 : decode cX11_of 5 = .ok (.bipush 11, 2) := by decide +kernel
theorem dX11_of_7 : decode cX11_of 7 = .ok (.iload_n 1, 1) := by decide +kernel
theorem dX11_of_8 : decode cX11_of 8 = .ok (.imul, 1) := by decide +kernel
theorem dX11_of_9 : decode cX11_of 9 = .ok (.iadd, 1) := by decide +kernel
theorem dX11_of_10 : decode cX11_of 10 = .ok (.iload_n 2, 1) := by decide +kernel
theorem dX11_of_11 : decode cX11_of 11 = .ok (.iadd, 1) := by decide +kernel
theorem dX11_of_12 : decode cX11_of 12 = .ok (.iaload, 1) := by decide +kernel
theorem dX11_of_13 : decode cX11_of 13 = .ok (.ireturn, 1) := by decide +kernel
theorem dX11_ofQuote_0 : decode cX11_ofQuote 0 = .ok (.aload_n 0, 1) := by decide +kernel
theorem dX11_ofQuote_1 : decode cX11_ofQuote 1 = .ok (.getfield 7, 3) := by decide +kernel
theorem dX11_ofQuote_4 : decode cX11_ofQuote 4 = .ok (.bipush 71, 2) := by decide +kernel
theorem dX11_ofQuote_6 : decode cX11_ofQuote 6 = .ok (.bipush 8, 2) := by decide +kernel
theorem dX11_ofQuote_8 : decode cX11_ofQuote 8 = .ok (.iload_n 1, 1) := by decide +kernel
theorem dX11_ofQuote_9 : decode cX11_ofQuote 9 = .ok (.imul, 1) := by decide +kernel
theorem dX11_ofQuote_10 : decode cX11_ofQuote 10 = .ok (.iadd, 1) := by decide +kernel
theorem dX11_ofQuote_11 : decode cX11_ofQuote 11 = .ok (.iload_n 2, 1) := by decide +kernel
theorem dX11_ofQuote_12 : decode cX11_ofQuote 12 = .ok (.iadd, 1) := by decide +kernel
theorem dX11_ofQuote_13 : decode cX11_ofQuote 13 = .ok (.iaload, 1) := by decide +kernel
theorem dX11_ofQuote_14 : decode cX11_ofQuote 14 = .ok (.ireturn, 1) := by decide +kernel
theorem dX11_setQuote_0 : decode cX11_setQuote 0 = .ok (.aload_n 0, 1) := by decide +kernel
theorem dX11_setQuote_1 : decode cX11_setQuote 1 = .ok (.getfield 7, 3) := by decide +kernel
theorem dX11_setQuote_4 : decode cX11_setQuote 4 = .ok (.bipush 71, 2) := by decide +kernel
theorem dX11_setQuote_6 : decode cX11_setQuote 6 = .ok (.bipush 8, 2) := by decide +kernel
theorem dX11_setQuote_8 : decode cX11_setQuote 8 = .ok (.iload_n 1, 1) := by decide +kernel
theorem dX11_setQuote_9 : decode cX11_setQuote 9 = .ok (.imul, 1) := by decide +kernel
theorem dX11_setQuote_10 : decode cX11_setQuote 10 = .ok (.iadd, 1) := by decide +kernel
theorem dX11_setQuote_11 : decode cX11_setQuote 11 = .ok (.iload_n 2, 1) := by decide +kernel
theorem dX11_setQuote_12 : decode cX11_setQuote 12 = .ok (.iadd, 1) := by decide +kernel
theorem dX11_setQuote_13 : decode cX11_setQuote 13 = .ok (.iload_n 3, 1) := by decide +kernel
theorem dX11_setQuote_14 : decode cX11_setQuote 14 = .ok (.iastore, 1) := by decide +kernel
theorem dX11_setQuote_15 : decode cX11_setQuote 15 = .ok (.return_, 1) := by decide +kernel
theorem dX11_isMoreOver_0 : decode cX11_isMoreOver 0 = .ok (.iconst 0, 1) := by decide +kernel
theorem dX11_isMoreOver_1 : decode cX11_isMoreOver 1 = .ok (.istore_n 1, 1) := by decide +kernel
theorem dX11_isMoreOver_2 : decode cX11_isMoreOver 2 = .ok (.iconst 0, 1) := by decide +kernel
theorem dX11_isMoreOver_3 : decode cX11_isMoreOver 3 = .ok (.istore_n 2, 1) := by decide +kernel
theorem dX11_isMoreOver_4 : decode cX11_isMoreOver 4 = .ok (.iload_n 2, 1) := by decide +kernel
theorem dX11_isMoreOver_5 : decode cX11_isMoreOver 5 = .ok (.aload_n 0, 1) := by decide +kernel
theorem dX11_isMoreOver_6 : decode cX11_isMoreOver 6 = .ok (.getfield 7, 3) := by decide +kernel
theorem dX11_isMoreOver_9 : decode cX11_isMoreOver 9 = .ok (.iconst 0, 1) := by decide +kernel
theorem dX11_isMoreOver_10 : decode cX11_isMoreOver 10 = .ok (.iaload, 1) := by decide +kernel
theorem dX11_isMoreOver_11 : decode cX11_isMoreOver 11 = .ok (.if_icmp .ge 34, 3) := by decide +kernel
theorem dX11_isMoreOver_14 : decode cX11_isMoreOver 14 = .ok (.iload_n 1, 1) := by decide +kernel
theorem dX11_isMoreOver_15 : decode cX11_isMoreOver 15 = .ok (.ifCond .ne 18, 3) := by decide +kernel
theorem dX11_isMoreOver_18 : decode cX11_isMoreOver 18 = .ok (.aload_n 0, 1) := by decide +kernel
theorem dX11_isMoreOver_19 : decode cX11_isMoreOver 19 = .ok (.getfield 28, 3) := by decide +kernel
theorem dX11_isMoreOver_22 : decode cX11_isMoreOver 22 = .ok (.iload_n 2, 1) := by decide +kernel
theorem dX11_isMoreOver_23 : decode cX11_isMoreOver 23 = .ok (.iaload, 1) := by decide +kernel
theorem dX11_isMoreOver_24 : decode cX11_isMoreOver 24 = .ok (.aload_n 0, 1) := by decide +kernel
theorem dX11_isMoreOver_25 : decode cX11_isMoreOver 25 = .ok (.getfield 34, 3) := by decide +kernel
theorem dX11_isMoreOver_28 : decode cX11_isMoreOver 28 = .ok (.iload_n 2, 1) := by decide +kernel
theorem dX11_isMoreOver_29 : decode cX11_isMoreOver 29 = .ok (.iaload, 1) := by decide +kernel
theorem dX11_isMoreOver_30 : decode cX11_isMoreOver 30 = .ok (.if_icmp .le 7, 3) := by decide +kernel
theorem dX11_isMoreOver_33 : decode cX11_isMoreOver 33 = .ok (.iconst 1, 1) := by decide +kernel
theorem dX11_isMoreOver_34 : decode cX11_isMoreOver 34 = .ok (.goto 4, 3) := by decide +kernel
theorem dX11_isMoreOver_37 : decode cX11_isMoreOver 37 = .ok (.iconst 0, 1) := by decide +kernel
theorem dX11_isMoreOver_38 : decode cX11_isMoreOver 38 = .ok (.istore_n 1, 1) := by decide +kernel
theorem dX11_isMoreOver_39 : decode cX11_isMoreOver 39 = .ok (.iinc 2 1, 3) := by decide +kernel
theorem dX11_isMoreOver_42 : decode cX11_isMoreOver 42 = .ok (.goto (-38), 3) := by decide +kernel
theorem dX11_isMoreOver_45 : decode cX11_isMoreOver 45 = .ok (.iload_n 1, 1) := by decide +kernel
theorem dX11_isMoreOver_46 : decode cX11_isMoreOver 46 = .ok (.ireturn, 1) := by decide +kernel
theorem dX11_putArticle_0 : decode cX11_putArticle 0 = .ok (.iconst 5, 1) := by decide +kernel
theorem dX11_putArticle_1 : decode cX11_putArticle 1 = .ok (.bipush 11, 2) := by decide +kernel
theorem dX11_putArticle_3 : decode cX11_putArticle 3 = .ok (.aload_n 0, 1) := by decide +kernel
theorem dX11_putArticle_4 : decode cX11_putArticle 4 = .ok (.getfield 7, 3) := by decide +kernel
theorem dX11_putArticle_7 : decode cX11_putArticle 7 = .ok (.iconst 0, 1) := by decide +kernel
theorem dX11_putArticle_8 : decode cX11_putArticle 8 = .ok (.iaload, 1) := by decide +kernel
theorem dX11_putArticle_9 : decode cX11_putArticle 9 = .ok (.imul, 1) := by decide +kernel
theorem dX11_putArticle_10 : decode cX11_putArticle 10 = .ok (.iadd, 1) := by decide +kernel
theorem dX11_putArticle_11 : decode cX11_putArticle 11 = .ok (.istore_n 3, 1) := by decide +kernel
theorem dX11_putArticle_12 : decode cX11_putArticle 12 = .ok (.aload_n 0, 1) := by decide +kernel
theorem dX11_putArticle_13 : decode cX11_putArticle 13 = .ok (.getfield 7, 3) := by decide +kernel
theorem dX11_putArticle_16 : decode cX11_putArticle 16 = .ok (.iload_n 3, 1) := by decide +kernel
theorem dX11_putArticle_17 : decode cX11_putArticle 17 = .ok (.iconst 0, 1) := by decide +kernel
theorem dX11_putArticle_18 : decode cX11_putArticle 18 = .ok (.iadd, 1) := by decide +kernel
theorem dX11_putArticle_19 : decode cX11_putArticle 19 = .ok (.iload_n 1, 1) := by decide +kernel
theorem dX11_putArticle_20 : decode cX11_putArticle 20 = .ok (.iastore, 1) := by decide +kernel
theorem dX11_putArticle_21 : decode cX11_putArticle 21 = .ok (.aload_n 0, 1) := by decide +kernel
theorem dX11_putArticle_22 : decode cX11_putArticle 22 = .ok (.getfield 7, 3) := by decide +kernel
theorem dX11_putArticle_25 : decode cX11_putArticle 25 = .ok (.iload_n 3, 1) := by decide +kernel
theorem dX11_putArticle_26 : decode cX11_putArticle 26 = .ok (.iconst 1, 1) := by decide +kernel
theorem dX11_putArticle_27 : decode cX11_putArticle 27 = .ok (.iadd, 1) := by decide +kernel
theorem dX11_putArticle_28 : decode cX11_putArticle 28 = .ok (.iload_n 2, 1) := by decide +kernel
theorem dX11_putArticle_29 : decode cX11_putArticle 29 = .ok (.iastore, 1) := by decide +kernel
theorem dX11_putArticle_30 : decode cX11_putArticle 30 = .ok (.aload_n 0, 1) := by decide +kernel
theorem dX11_putArticle_31 : decode cX11_putArticle 31 = .ok (.getfield 7, 3) := by decide +kernel
theorem dX11_putArticle_34 : decode cX11_putArticle 34 = .ok (.iload_n 3, 1) := by decide +kernel
theorem dX11_putArticle_35 : decode cX11_putArticle 35 = .ok (.iconst 2, 1) := by decide +kernel
theorem dX11_putArticle_36 : decode cX11_putArticle 36 = .ok (.iadd, 1) := by decide +kernel
theorem dX11_putArticle_37 : decode cX11_putArticle 37 = .ok (.iconst 0, 1) := by decide +kernel
theorem dX11_putArticle_38 : decode cX11_putArticle 38 = .ok (.iastore, 1) := by decide +kernel
theorem dX11_putArticle_39 : decode cX11_putArticle 39 = .ok (.aload_n 0, 1) := by decide +kernel
theorem dX11_putArticle_40 : decode cX11_putArticle 40 = .ok (.getfield 7, 3) := by decide +kernel
theorem dX11_putArticle_43 : decode cX11_putArticle 43 = .ok (.iconst 0, 1) := by decide +kernel
theorem dX11_putArticle_44 : decode cX11_putArticle 44 = .ok (.dup2, 1) := by decide +kernel
theorem dX11_putArticle_45 : decode cX11_putArticle 45 = .ok (.iaload, 1) := by decide +kernel
theorem dX11_putArticle_46 : decode cX11_putArticle 46 = .ok (.iconst 1, 1) := by decide +kernel
theorem dX11_putArticle_47 : decode cX11_putArticle 47 = .ok (.iadd, 1) := by decide +kernel
theorem dX11_putArticle_48 : decode cX11_putArticle 48 = .ok (.iastore, 1) := by decide +kernel
theorem dX11_putArticle_49 : decode cX11_putArticle 49 = .ok (.return_, 1) := by decide +kernel
theorem dX11_takeQuote_0 : decode cX11_takeQuote 0 = .ok (.aload_n 0, 1) := by decide +kernel
theorem dX11_takeQuote_1 : decode cX11_takeQuote 1 = .ok (.getfield 7, 3) := by decide +kernel
theorem dX11_takeQuote_4 : decode cX11_takeQuote 4 = .ok (.iconst 1, 1) := by decide +kernel
theorem dX11_takeQuote_5 : decode cX11_takeQuote 5 = .ok (.dup2, 1) := by decide +kernel
theorem dX11_takeQuote_6 : decode cX11_takeQuote 6 = .ok (.iaload, 1) := by decide +kernel
theorem dX11_takeQuote_7 : decode cX11_takeQuote 7 = .ok (.iconst 1, 1) := by decide +kernel
theorem dX11_takeQuote_8 : decode cX11_takeQuote 8 = .ok (.isub, 1) := by decide +kernel
theorem dX11_takeQuote_9 : decode cX11_takeQuote 9 = .ok (.iastore, 1) := by decide +kernel
theorem dX11_takeQuote_10 : decode cX11_takeQuote 10 = .ok (.bipush 71, 2) := by decide +kernel
theorem dX11_takeQuote_12 : decode cX11_takeQuote 12 = .ok (.bipush 8, 2) := by decide +kernel
theorem dX11_takeQuote_14 : decode cX11_takeQuote 14 = .ok (.iload_n 1, 1) := by decide +kernel
theorem dX11_takeQuote_15 : decode cX11_takeQuote 15 = .ok (.imul, 1) := by decide +kernel
theorem dX11_takeQuote_16 : decode cX11_takeQuote 16 = .ok (.iadd, 1) := by decide +kernel
theorem dX11_takeQuote_17 : decode cX11_takeQuote 17 = .ok (.istore_n 2, 1) := by decide +kernel
theorem dX11_takeQuote_18 : decode cX11_takeQuote 18 = .ok (.iload_n 2, 1) := by decide +kernel
theorem dX11_takeQuote_19 : decode cX11_takeQuote 19 = .ok (.bipush 71, 2) := by decide +kernel
theorem dX11_takeQuote_21 : decode cX11_takeQuote 21 = .ok (.bipush 8, 2) := by decide +kernel
theorem dX11_takeQuote_23 : decode cX11_takeQuote 23 = .ok (.aload_n 0, 1) := by decide +kernel
theorem dX11_takeQuote_24 : decode cX11_takeQuote 24 = .ok (.getfield 7, 3) := by decide +kernel
theorem dX11_takeQuote_27 : decode cX11_takeQuote 27 = .ok (.iconst 1, 1) := by decide +kernel
theorem dX11_takeQuote_28 : decode cX11_takeQuote 28 = .ok (.iaload, 1) := by decide +kernel
theorem dX11_takeQuote_29 : decode cX11_takeQuote 29 = .ok (.imul, 1) := by decide +kernel
theorem dX11_takeQuote_30 : decode cX11_takeQuote 30 = .ok (.iadd, 1) := by decide +kernel
theorem dX11_takeQuote_31 : decode cX11_takeQuote 31 = .ok (.if_icmp .ge 24, 3) := by decide +kernel
theorem dX11_takeQuote_34 : decode cX11_takeQuote 34 = .ok (.aload_n 0, 1) := by decide +kernel
theorem dX11_takeQuote_35 : decode cX11_takeQuote 35 = .ok (.getfield 7, 3) := by decide +kernel
theorem dX11_takeQuote_38 : decode cX11_takeQuote 38 = .ok (.iload_n 2, 1) := by decide +kernel
theorem dX11_takeQuote_39 : decode cX11_takeQuote 39 = .ok (.aload_n 0, 1) := by decide +kernel
theorem dX11_takeQuote_40 : decode cX11_takeQuote 40 = .ok (.getfield 7, 3) := by decide +kernel
theorem dX11_takeQuote_43 : decode cX11_takeQuote 43 = .ok (.iload_n 2, 1) := by decide +kernel
theorem dX11_takeQuote_44 : decode cX11_takeQuote 44 = .ok (.bipush 8, 2) := by decide +kernel
theorem dX11_takeQuote_46 : decode cX11_takeQuote 46 = .ok (.iadd, 1) := by decide +kernel
theorem dX11_takeQuote_47 : decode cX11_takeQuote 47 = .ok (.iaload, 1) := by decide +kernel
theorem dX11_takeQuote_48 : decode cX11_takeQuote 48 = .ok (.iastore, 1) := by decide +kernel
theorem dX11_takeQuote_49 : decode cX11_takeQuote 49 = .ok (.iinc 2 1, 3) := by decide +kernel
theorem dX11_takeQuote_52 : decode cX11_takeQuote 52 = .ok (.goto (-34), 3) := by decide +kernel
theorem dX11_takeQuote_55 : decode cX11_takeQuote 55 = .ok (.return_, 1) := by decide +kernel
theorem dX11_undo_0 : decode cX11_undo 0 = .ok (.aload_n 0, 1) := by decide +kernel
theorem dX11_undo_1 : decode cX11_undo 1 = .ok (.iconst 0, 1) := by decide +kernel
theorem dX11_undo_2 : decode cX11_undo 2 = .ok (.putfield 37, 3) := by decide +kernel
theorem dX11_undo_5 : decode cX11_undo 5 = .ok (.aload_n 0, 1) := by decide +kernel
theorem dX11_undo_6 : decode cX11_undo 6 = .ok (.getfield 41, 3) := by decide +kernel
theorem dX11_undo_9 : decode cX11_undo 9 = .ok (.ifCond .ne 6, 3) := by decide +kernel
theorem dX11_undo_12 : decode cX11_undo 12 = .ok (.bipush (-2), 2) := by decide +kernel
theorem dX11_undo_14 : decode cX11_undo 14 = .ok (.ireturn, 1) := by decide +kernel
theorem dX11_undo_15 : decode cX11_undo 15 = .ok (.aload_n 0, 1) := by decide +kernel
theorem dX11_undo_16 : decode cX11_undo 16 = .ok (.dup, 1) := by decide +kernel
theorem dX11_undo_17 : decode cX11_undo 17 = .ok (.getfield 41, 3) := by decide +kernel
theorem dX11_undo_20 : decode cX11_undo 20 = .ok (.iconst 1, 1) := by decide +kernel
theorem dX11_undo_21 : decode cX11_undo 21 = .ok (.isub, 1) := by decide +kernel
theorem dX11_undo_22 : decode cX11_undo 22 = .ok (.putfield 41, 3) := by decide +kernel
theorem dX11_undo_25 : decode cX11_undo 25 = .ok (.iconst 0, 1) := by decide +kernel
theorem dX11_undo_26 : decode cX11_undo 26 = .ok (.istore_n 1, 1) := by decide +kernel
theorem dX11_undo_27 : decode cX11_undo 27 = .ok (.iload_n 1, 1) := by decide +kernel
theorem dX11_undo_28 : decode cX11_undo 28 = .ok (.sipush 407, 3) := by decide +kernel
theorem dX11_undo_31 : decode cX11_undo 31 = .ok (.if_icmp .ge 30, 3) := by decide +kernel
theorem dX11_undo_34 : decode cX11_undo 34 = .ok (.aload_n 0, 1) := by decide +kernel
theorem dX11_undo_35 : decode cX11_undo 35 = .ok (.getfield 7, 3) := by decide +kernel
theorem dX11_undo_38 : decode cX11_undo 38 = .ok (.iload_n 1, 1) := by decide +kernel
theorem dX11_undo_39 : decode cX11_undo 39 = .ok (.aload_n 0, 1) := by decide +kernel
theorem dX11_undo_40 : decode cX11_undo 40 = .ok (.getfield 16, 3) := by decide +kernel
theorem dX11_undo_43 : decode cX11_undo 43 = .ok (.sipush 407, 3) := by decide +kernel
theorem dX11_undo_46 : decode cX11_undo 46 = .ok (.aload_n 0, 1) := by decide +kernel
theorem dX11_undo_47 : decode cX11_undo 47 = .ok (.getfield 41, 3) := by decide +kernel
theorem dX11_undo_50 : decode cX11_undo 50 = .ok (.imul, 1) := by decide +kernel
theorem dX11_undo_51 : decode cX11_undo 51 = .ok (.iload_n 1, 1) := by decide +kernel
theorem dX11_undo_52 : decode cX11_undo 52 = .ok (.iadd, 1) := by decide +kernel
theorem dX11_undo_53 : decode cX11_undo 53 = .ok (.iaload, 1) := by decide +kernel
theorem dX11_undo_54 : decode cX11_undo 54 = .ok (.iastore, 1) := by decide +kernel
theorem dX11_undo_55 : decode cX11_undo 55 = .ok (.iinc 1 1, 3) := by decide +kernel
theorem dX11_undo_58 : decode cX11_undo 58 = .ok (.goto (-31), 3) := by decide +kernel
theorem dX11_undo_61 : decode cX11_undo 61 = .ok (.aload_n 0, 1) := by decide +kernel
theorem dX11_undo_62 : decode cX11_undo 62 = .ok (.getfield 41, 3) := by decide +kernel
theorem dX11_undo_65 : decode cX11_undo 65 = .ok (.ireturn, 1) := by decide +kernel
theorem dX11_clearText_0 : decode cX11_clearText 0 = .ok (.aload_n 0, 1) := by decide +kernel
theorem dX11_clearText_1 : decode cX11_clearText 1 = .ok (.iconst 0, 1) := by decide +kernel
theorem dX11_clearText_2 : decode cX11_clearText 2 = .ok (.putfield 37, 3) := by decide +kernel
theorem dX11_clearText_5 : decode cX11_clearText 5 = .ok (.aload_n 0, 1) := by decide +kernel
theorem dX11_clearText_6 : decode cX11_clearText 6 = .ok (.getfield 191, 3) := by decide +kernel
theorem dX11_clearText_9 : decode cX11_clearText 9 = .ok (.istore_n 1, 1) := by decide +kernel
theorem dX11_clearText_10 : decode cX11_clearText 10 = .ok (.aload_n 0, 1) := by decide +kernel
theorem dX11_clearText_11 : decode cX11_clearText 11 = .ok (.iconst 0, 1) := by decide +kernel
theorem dX11_clearText_12 : decode cX11_clearText 12 = .ok (.putfield 191, 3) := by decide +kernel
theorem dX11_clearText_15 : decode cX11_clearText 15 = .ok (.iload_n 1, 1) := by decide +kernel
theorem dX11_clearText_16 : decode cX11_clearText 16 = .ok (.ireturn, 1) := by decide +kernel
theorem dX11_here_0 : decode cX11_here 0 = .ok (.aload_n 0, 1) := by decide +kernel
theorem dX11_here_1 : decode cX11_here 1 = .ok (.getfield 194, 3) := by decide +kernel
theorem dX11_here_4 : decode cX11_here 4 = .ok (.aload_n 0, 1) := by decide +kernel
theorem dX11_here_5 : decode cX11_here 5 = .ok (.getfield 191, 3) := by decide +kernel
theorem dX11_here_8 : decode cX11_here 8 = .ok (.if_icmp .ge 30, 3) := by decide +kernel
theorem dX11_here_11 : decode cX11_here 11 = .ok (.aload_n 0, 1) := by decide +kernel
theorem dX11_here_12 : decode cX11_here 12 = .ok (.getfield 19, 3) := by decide +kernel
theorem dX11_here_15 : decode cX11_here 15 = .ok (.aload_n 0, 1) := by decide +kernel
theorem dX11_here_16 : decode cX11_here 16 = .ok (.getfield 194, 3) := by decide +kernel
theorem dX11_here_19 : decode cX11_here 19 = .ok (.iaload, 1) := by decide +kernel
theorem dX11_here_20 : decode cX11_here 20 = .ok (.bipush 32, 2) := by decide +kernel
theorem dX11_here_22 : decode cX11_here 22 = .ok (.if_icmp .ne 16, 3) := by decide +kernel
theorem dX11_here_25 : decode cX11_here 25 = .ok (.aload_n 0, 1) := by decide +kernel
theorem dX11_here_26 : decode cX11_here 26 = .ok (.dup, 1) := by decide +kernel
theorem dX11_here_27 : decode cX11_here 27 = .ok (.getfield 194, 3) := by decide +kernel
theorem dX11_here_30 : decode cX11_here 30 = .ok (.iconst 1, 1) := by decide +kernel
theorem dX11_here_31 : decode cX11_here 31 = .ok (.iadd, 1) := by decide +kernel
theorem dX11_here_32 : decode cX11_here 32 = .ok (.putfield 194, 3) := by decide +kernel
theorem dX11_here_35 : decode cX11_here 35 = .ok (.goto (-35), 3) := by decide +kernel
theorem dX11_here_38 : decode cX11_here 38 = .ok (.aload_n 0, 1) := by decide +kernel
theorem dX11_here_39 : decode cX11_here 39 = .ok (.getfield 194, 3) := by decide +kernel
theorem dX11_here_42 : decode cX11_here 42 = .ok (.aload_n 0, 1) := by decide +kernel
theorem dX11_here_43 : decode cX11_here 43 = .ok (.getfield 191, 3) := by decide +kernel
theorem dX11_here_46 : decode cX11_here 46 = .ok (.if_icmp .ge 15, 3) := by decide +kernel
theorem dX11_here_49 : decode cX11_here 49 = .ok (.aload_n 0, 1) := by decide +kernel
theorem dX11_here_50 : decode cX11_here 50 = .ok (.getfield 19, 3) := by decide +kernel
theorem dX11_here_53 : decode cX11_here 53 = .ok (.aload_n 0, 1) := by decide +kernel
theorem dX11_here_54 : decode cX11_here 54 = .ok (.getfield 194, 3) := by decide +kernel
theorem dX11_here_57 : decode cX11_here 57 = .ok (.iaload, 1) := by decide +kernel
theorem dX11_here_58 : decode cX11_here 58 = .ok (.goto 4, 3) := by decide +kernel
theorem dX11_here_61 : decode cX11_here 61 = .ok (.iconst (-1), 1) := by decide +kernel
theorem dX11_here_62 : decode cX11_here 62 = .ok (.ireturn, 1) := by decide +kernel
theorem dX11_sum_0 : decode cX11_sum 0 = .ok (.iconst 0, 1) := by decide +kernel
theorem dX11_sum_1 : decode cX11_sum 1 = .ok (.istore_n 2, 1) := by decide +kernel
theorem dX11_sum_2 : decode cX11_sum 2 = .ok (.iconst 0, 1) := by decide +kernel
theorem dX11_sum_3 : decode cX11_sum 3 = .ok (.istore_n 3, 1) := by decide +kernel
theorem dX11_sum_4 : decode cX11_sum 4 = .ok (.iload_n 3, 1) := by decide +kernel
theorem dX11_sum_5 : decode cX11_sum 5 = .ok (.aload_n 0, 1) := by decide +kernel
theorem dX11_sum_6 : decode cX11_sum 6 = .ok (.getfield 7, 3) := by decide +kernel
theorem dX11_sum_9 : decode cX11_sum 9 = .ok (.iconst 0, 1) := by decide +kernel
theorem dX11_sum_10 : decode cX11_sum 10 = .ok (.iaload, 1) := by decide +kernel
theorem dX11_sum_11 : decode cX11_sum 11 = .ok (.if_icmp .ge 15, 3) := by decide +kernel
theorem dX11_sum_14 : decode cX11_sum 14 = .ok (.iload_n 2, 1) := by decide +kernel
theorem dX11_sum_15 : decode cX11_sum 15 = .ok (.aload_n 1, 1) := by decide +kernel
theorem dX11_sum_16 : decode cX11_sum 16 = .ok (.iload_n 3, 1) := by decide +kernel
theorem dX11_sum_17 : decode cX11_sum 17 = .ok (.iaload, 1) := by decide +kernel
theorem dX11_sum_18 : decode cX11_sum 18 = .ok (.iadd, 1) := by decide +kernel
theorem dX11_sum_19 : decode cX11_sum 19 = .ok (.istore_n 2, 1) := by decide +kernel
theorem dX11_sum_20 : decode cX11_sum 20 = .ok (.iinc 3 1, 3) := by decide +kernel
theorem dX11_sum_23 : decode cX11_sum 23 = .ok (.goto (-19), 3) := by decide +kernel
theorem dX11_sum_26 : decode cX11_sum 26 = .ok (.iload_n 2, 1) := by decide +kernel
theorem dX11_sum_27 : decode cX11_sum 27 = .ok (.ireturn, 1) := by decide +kernel
theorem dJ9_abs_0f7a4_0 : decode cJ9_abs_0f7a4 0 = .ok (.iload_n 0, 1) := by decide +kernel
theorem dJ9_abs_0f7a4_1 : decode cJ9_abs_0f7a4 1 = .ok (.ifCond .ge 8, 3) := by decide +kernel
theorem dJ9_abs_0f7a4_4 : decode cJ9_abs_0f7a4 4 = .ok (.iload_n 0, 1) := by decide +kernel
theorem dJ9_abs_0f7a4_5 : decode cJ9_abs_0f7a4 5 = .ok (.ineg, 1) := by decide +kernel
theorem dJ9_abs_0f7a4_6 : decode cJ9_abs_0f7a4 6 = .ok (.goto 4, 3) := by decide +kernel
theorem dJ9_abs_0f7a4_9 : decode cJ9_abs_0f7a4 9 = .ok (.iload_n 0, 1) := by decide +kernel
theorem dJ9_abs_0f7a4_10 : decode cJ9_abs_0f7a4 10 = .ok (.ireturn, 1) := by decide +kernel
theorem dJ9_max_7cf53_0 : decode cJ9_max_7cf53 0 = .ok (.iload_n 0, 1) := by decide +kernel
theorem dJ9_max_7cf53_1 : decode cJ9_max_7cf53 1 = .ok (.iload_n 1, 1) := by decide +kernel
theorem dJ9_max_7cf53_2 : decode cJ9_max_7cf53 2 = .ok (.if_icmp .lt 7, 3) := by decide +kernel
theorem dJ9_max_7cf53_5 : decode cJ9_max_7cf53 5 = .ok (.iload_n 0, 1) := by decide +kernel
theorem dJ9_max_7cf53_6 : decode cJ9_max_7cf53 6 = .ok (.goto 4, 3) := by decide +kernel
theorem dJ9_max_7cf53_9 : decode cJ9_max_7cf53 9 = .ok (.iload_n 1, 1) := by decide +kernel
theorem dJ9_max_7cf53_10 : decode cJ9_max_7cf53 10 = .ok (.ireturn, 1) := by decide +kernel
theorem dJ9_min_7cf53_0 : decode cJ9_min_7cf53 0 = .ok (.iload_n 0, 1) := by decide +kernel
theorem dJ9_min_7cf53_1 : decode cJ9_min_7cf53 1 = .ok (.iload_n 1, 1) := by decide +kernel
theorem dJ9_min_7cf53_2 : decode cJ9_min_7cf53 2 = .ok (.if_icmp .gt 7, 3) := by decide +kernel
theorem dJ9_min_7cf53_5 : decode cJ9_min_7cf53 5 = .ok (.iload_n 0, 1) := by decide +kernel
theorem dJ9_min_7cf53_6 : decode cJ9_min_7cf53 6 = .ok (.goto 4, 3) := by decide +kernel
theorem dJ9_min_7cf53_9 : decode cJ9_min_7cf53 9 = .ok (.iload_n 1, 1) := by decide +kernel
theorem dJ9_min_7cf53_10 : decode cJ9_min_7cf53 10 = .ok (.ireturn, 1) := by decide +kernel
theorem dJ7_fill_53178_0 : decode cJ7_fill_53178 0 = .ok (.iconst 0, 1) := by decide +kernel
theorem dJ7_fill_53178_1 : decode cJ7_fill_53178 1 = .ok (.istore_n 2, 1) := by decide +kernel
theorem dJ7_fill_53178_2 : decode cJ7_fill_53178 2 = .ok (.aload_n 0, 1) := by decide +kernel
theorem dJ7_fill_53178_3 : decode cJ7_fill_53178 3 = .ok (.arraylength, 1) := by decide +kernel
theorem dJ7_fill_53178_4 : decode cJ7_fill_53178 4 = .ok (.istore_n 3, 1) := by decide +kernel
theorem dJ7_fill_53178_5 : decode cJ7_fill_53178 5 = .ok (.iload_n 2, 1) := by decide +kernel
theorem dJ7_fill_53178_6 : decode cJ7_fill_53178 6 = .ok (.iload_n 3, 1) := by decide +kernel
theorem dJ7_fill_53178_7 : decode cJ7_fill_53178 7 = .ok (.if_icmp .ge 13, 3) := by decide +kernel
theorem dJ7_fill_53178_10 : decode cJ7_fill_53178 10 = .ok (.aload_n 0, 1) := by decide +kernel
theorem dJ7_fill_53178_11 : decode cJ7_fill_53178 11 = .ok (.iload_n 2, 1) := by decide +kernel
theorem dJ7_fill_53178_12 : decode cJ7_fill_53178 12 = .ok (.iload_n 1, 1) := by decide +kernel
theorem dJ7_fill_53178_13 : decode cJ7_fill_53178 13 = .ok (.iastore, 1) := by decide +kernel
theorem dJ7_fill_53178_14 : decode cJ7_fill_53178 14 = .ok (.iinc 2 1, 3) := by decide +kernel
theorem dJ7_fill_53178_17 : decode cJ7_fill_53178 17 = .ok (.goto (-12), 3) := by decide +kernel
theorem dJ7_fill_53178_20 : decode cJ7_fill_53178 20 = .ok (.return_, 1) := by decide +kernel
theorem dX0_leastLength_0 : decode cX0_leastLength 0 = .ok (.iconst 1, 1) := by decide +kernel
theorem dX0_leastLength_1 : decode cX0_leastLength 1 = .ok (.istore_n 1, 1) := by decide +kernel
theorem dX0_leastLength_2 : decode cX0_leastLength 2 = .ok (.iconst 0, 1) := by decide +kernel
theorem dX0_leastLength_3 : decode cX0_leastLength 3 = .ok (.istore_n 2, 1) := by decide +kernel
theorem dX0_leastLength_4 : decode cX0_leastLength 4 = .ok (.iload_n 2, 1) := by decide +kernel
theorem dX0_leastLength_5 : decode cX0_leastLength 5 = .ok (.aload_n 0, 1) := by decide +kernel
theorem dX0_leastLength_6 : decode cX0_leastLength 6 = .ok (.getfield 22, 3) := by decide +kernel
theorem dX0_leastLength_9 : decode cX0_leastLength 9 = .ok (.if_icmp .ge 22, 3) := by decide +kernel
theorem dX0_leastLength_12 : decode cX0_leastLength 12 = .ok (.iload_n 1, 1) := by decide +kernel
theorem dX0_leastLength_13 : decode cX0_leastLength 13 = .ok (.aload_n 0, 1) := by decide +kernel
theorem dX0_leastLength_14 : decode cX0_leastLength 14 = .ok (.getfield 9, 3) := by decide +kernel
theorem dX0_leastLength_17 : decode cX0_leastLength 17 = .ok (.iload_n 2, 1) := by decide +kernel
theorem dX0_leastLength_18 : decode cX0_leastLength 18 = .ok (.iaload, 1) := by decide +kernel
theorem dX0_leastLength_19 : decode cX0_leastLength 19 = .ok (.iconst 1, 1) := by decide +kernel
theorem dX0_leastLength_20 : decode cX0_leastLength 20 = .ok (.iadd, 1) := by decide +kernel
theorem dX0_leastLength_21 : decode cX0_leastLength 21 = .ok (.invokestatic 31, 3) := by decide +kernel
theorem dX0_leastLength_24 : decode cX0_leastLength 24 = .ok (.istore_n 1, 1) := by decide +kernel
theorem dX0_leastLength_25 : decode cX0_leastLength 25 = .ok (.iinc 2 1, 3) := by decide +kernel
theorem dX0_leastLength_28 : decode cX0_leastLength 28 = .ok (.goto (-24), 3) := by decide +kernel
theorem dX0_leastLength_31 : decode cX0_leastLength 31 = .ok (.iload_n 1, 1) := by decide +kernel
theorem dX0_leastLength_32 : decode cX0_leastLength 32 = .ok (.ireturn, 1) := by decide +kernel
theorem dX1_copyFrom_0 : decode cX1_copyFrom 0 = .ok (.aload_n 0, 1) := by decide +kernel
theorem dX1_copyFrom_1 : decode cX1_copyFrom 1 = .ok (.aload_n 1, 1) := by decide +kernel
theorem dX1_copyFrom_2 : decode cX1_copyFrom 2 = .ok (.getfield 29, 3) := by decide +kernel
theorem dX1_copyFrom_5 : decode cX1_copyFrom 5 = .ok (.putfield 29, 3) := by decide +kernel
theorem dX1_copyFrom_8 : decode cX1_copyFrom 8 = .ok (.iconst 0, 1) := by decide +kernel
theorem dX1_copyFrom_9 : decode cX1_copyFrom 9 = .ok (.istore_n 2, 1) := by decide +kernel
theorem dX1_copyFrom_10 : decode cX1_copyFrom 10 = .ok (.iload_n 2, 1) := by decide +kernel
theorem dX1_copyFrom_11 : decode cX1_copyFrom 11 = .ok (.aload_n 0, 1) := by decide +kernel
theorem dX1_copyFrom_12 : decode cX1_copyFrom 12 = .ok (.getfield 29, 3) := by decide +kernel
theorem dX1_copyFrom_15 : decode cX1_copyFrom 15 = .ok (.if_icmp .ge 24, 3) := by decide +kernel
theorem dX1_copyFrom_18 : decode cX1_copyFrom 18 = .ok (.aload_n 0, 1) := by decide +kernel
theorem dX1_copyFrom_19 : decode cX1_copyFrom 19 = .ok (.getfield 11, 3) := by decide +kernel
theorem dX1_copyFrom_22 : decode cX1_copyFrom 22 = .ok (.iload_n 2, 1) := by decide +kernel
theorem dX1_copyFrom_23 : decode cX1_copyFrom 23 = .ok (.aaload, 1) := by decide +kernel
theorem dX1_copyFrom_24 : decode cX1_copyFrom 24 = .ok (.aload_n 1, 1) := by decide +kernel
theorem dX1_copyFrom_25 : decode cX1_copyFrom 25 = .ok (.getfield 11, 3) := by decide +kernel
theorem dX1_copyFrom_28 : decode cX1_copyFrom 28 = .ok (.iload_n 2, 1) := by decide +kernel
theorem dX1_copyFrom_29 : decode cX1_copyFrom 29 = .ok (.aaload, 1) := by decide +kernel
theorem dX1_copyFrom_30 : decode cX1_copyFrom 30 = .ok (.invokevirtual 33, 3) := by decide +kernel
theorem dX1_copyFrom_33 : decode cX1_copyFrom 33 = .ok (.iinc 2 1, 3) := by decide +kernel
theorem dX1_copyFrom_36 : decode cX1_copyFrom 36 = .ok (.goto (-26), 3) := by decide +kernel
theorem dX1_copyFrom_39 : decode cX1_copyFrom 39 = .ok (.aload_n 0, 1) := by decide +kernel
theorem dX1_copyFrom_40 : decode cX1_copyFrom 40 = .ok (.aload_n 1, 1) := by decide +kernel
theorem dX1_copyFrom_41 : decode cX1_copyFrom 41 = .ok (.getfield 37, 3) := by decide +kernel
theorem dX1_copyFrom_44 : decode cX1_copyFrom 44 = .ok (.putfield 37, 3) := by decide +kernel
theorem dX1_copyFrom_47 : decode cX1_copyFrom 47 = .ok (.iconst 0, 1) := by decide +kernel
theorem dX1_copyFrom_48 : decode cX1_copyFrom 48 = .ok (.istore_n 2, 1) := by decide +kernel
theorem dX1_copyFrom_49 : decode cX1_copyFrom 49 = .ok (.iload_n 2, 1) := by decide +kernel
theorem dX1_copyFrom_50 : decode cX1_copyFrom 50 = .ok (.aload_n 0, 1) := by decide +kernel
theorem dX1_copyFrom_51 : decode cX1_copyFrom 51 = .ok (.getfield 37, 3) := by decide +kernel
theorem dX1_copyFrom_54 : decode cX1_copyFrom 54 = .ok (.if_icmp .ge 24, 3) := by decide +kernel
theorem dX1_copyFrom_57 : decode cX1_copyFrom 57 = .ok (.aload_n 0, 1) := by decide +kernel
theorem dX1_copyFrom_58 : decode cX1_copyFrom 58 = .ok (.getfield 19, 3) := by decide +kernel
theorem dX1_copyFrom_61 : decode cX1_copyFrom 61 = .ok (.iload_n 2, 1) := by decide +kernel
theorem dX1_copyFrom_62 : decode cX1_copyFrom 62 = .ok (.aaload, 1) := by decide +kernel
theorem dX1_copyFrom_63 : decode cX1_copyFrom 63 = .ok (.aload_n 1, 1) := by decide +kernel
theorem dX1_copyFrom_64 : decode cX1_copyFrom 64 = .ok (.getfield 19, 3) := by decide +kernel
theorem dX1_copyFrom_67 : decode cX1_copyFrom 67 = .ok (.iload_n 2, 1) := by decide +kernel
theorem dX1_copyFrom_68 : decode cX1_copyFrom 68 = .ok (.aaload, 1) := by decide +kernel
theorem dX1_copyFrom_69 : decode cX1_copyFrom 69 = .ok (.invokevirtual 40, 3) := by decide +kernel
theorem dX1_copyFrom_72 : decode cX1_copyFrom 72 = .ok (.iinc 2 1, 3) := by decide +kernel
theorem dX1_copyFrom_75 : decode cX1_copyFrom 75 = .ok (.goto (-26), 3) := by decide +kernel
theorem dX1_copyFrom_78 : decode cX1_copyFrom 78 = .ok (.aload_n 1, 1) := by decide +kernel
theorem dX1_copyFrom_79 : decode cX1_copyFrom 79 = .ok (.getfield 23, 3) := by decide +kernel
theorem dX1_copyFrom_82 : decode cX1_copyFrom 82 = .ok (.iconst 0, 1) := by decide +kernel
theorem dX1_copyFrom_83 : decode cX1_copyFrom 83 = .ok (.aload_n 0, 1) := by decide +kernel
theorem dX1_copyFrom_84 : decode cX1_copyFrom 84 = .ok (.getfield 23, 3) := by decide +kernel
theorem dX1_copyFrom_87 : decode cX1_copyFrom 87 = .ok (.iconst 0, 1) := by decide +kernel
theorem dX1_copyFrom_88 : decode cX1_copyFrom 88 = .ok (.iconst 3, 1) := by decide +kernel
theorem dX1_copyFrom_89 : decode cX1_copyFrom 89 = .ok (.invokestatic 43, 3) := by decide +kernel
theorem dX1_copyFrom_92 : decode cX1_copyFrom 92 = .ok (.return_, 1) := by decide +kernel
theorem dX1_hasArticle_0 : decode cX1_hasArticle 0 = .ok (.iload_n 1, 1) := by decide +kernel
theorem dX1_hasArticle_1 : decode cX1_hasArticle 1 = .ok (.iconst 0, 1) := by decide +kernel
theorem dX1_hasArticle_2 : decode cX1_hasArticle 2 = .ok (.aload_n 0, 1) := by decide +kernel
theorem dX1_hasArticle_3 : decode cX1_hasArticle 3 = .ok (.getfield 29, 3) := by decide +kernel
theorem dX1_hasArticle_6 : decode cX1_hasArticle 6 = .ok (.iconst 1, 1) := by decide +kernel
theorem dX1_hasArticle_7 : decode cX1_hasArticle 7 = .ok (.isub, 1) := by decide +kernel
theorem dX1_hasArticle_8 : decode cX1_hasArticle 8 = .ok (.invokestatic 49, 3) := by decide +kernel
theorem dX1_hasArticle_11 : decode cX1_hasArticle 11 = .ok (.ireturn, 1) := by decide +kernel
theorem dX1_hasQuote_0 : decode cX1_hasQuote 0 = .ok (.iload_n 1, 1) := by decide +kernel
theorem dX1_hasQuote_1 : decode cX1_hasQuote 1 = .ok (.iconst 0, 1) := by decide +kernel
theorem dX1_hasQuote_2 : decode cX1_hasQuote 2 = .ok (.aload_n 0, 1) := by decide +kernel
theorem dX1_hasQuote_3 : decode cX1_hasQuote 3 = .ok (.getfield 37, 3) := by decide +kernel
theorem dX1_hasQuote_6 : decode cX1_hasQuote 6 = .ok (.iconst 1, 1) := by decide +kernel
theorem dX1_hasQuote_7 : decode cX1_hasQuote 7 = .ok (.isub, 1) := by decide +kernel
theorem dX1_hasQuote_8 : decode cX1_hasQuote 8 = .ok (.invokestatic 49, 3) := by decide +kernel
theorem dX1_hasQuote_11 : decode cX1_hasQuote 11 = .ok (.ireturn, 1) := by decide +kernel
theorem dX2_pour_0 : decode cX2_pour 0 = .ok (.aload_n 0, 1) := by decide +kernel
theorem dX2_pour_1 : decode cX2_pour 1 = .ok (.iconst 0, 1) := by decide +kernel
theorem dX2_pour_2 : decode cX2_pour 2 = .ok (.putfield 18, 3) := by decide +kernel
theorem dX2_pour_5 : decode cX2_pour 5 = .ok (.aload_n 0, 1) := by decide +kernel
theorem dX2_pour_6 : decode cX2_pour 6 = .ok (.iconst 0, 1) := by decide +kernel
theorem dX2_pour_7 : decode cX2_pour 7 = .ok (.putfield 22, 3) := by decide +kernel
theorem dX2_pour_10 : decode cX2_pour 10 = .ok (.aload_n 0, 1) := by decide +kernel
theorem dX2_pour_11 : decode cX2_pour 11 = .ok (.getfield 15, 3) := by decide +kernel
theorem dX2_pour_14 : decode cX2_pour 14 = .ok (.iconst 0, 1) := by decide +kernel
theorem dX2_pour_15 : decode cX2_pour 15 = .ok (.invokestatic 25, 3) := by decide +kernel
theorem dX2_pour_18 : decode cX2_pour 18 = .ok (.aload_n 1, 1) := by decide +kernel
theorem dX2_pour_19 : decode cX2_pour 19 = .ok (.getfield 31, 3) := by decide +kernel
theorem dX2_pour_22 : decode cX2_pour 22 = .ok (.sipush 200, 3) := by decide +kernel
theorem dX2_pour_25 : decode cX2_pour 25 = .ok (.invokestatic 36, 3) := by decide +kernel
theorem dX2_pour_28 : decode cX2_pour 28 = .ok (.istore 4, 2) := by decide +kernel
theorem dX2_pour_30 : decode cX2_pour 30 = .ok (.bipush (-99), 2) := by decide +kernel
theorem dX2_pour_32 : decode cX2_pour 32 = .ok (.istore 5, 2) := by decide +kernel
theorem dX2_pour_34 : decode cX2_pour 34 = .ok (.aload_n 1, 1) := by decide +kernel
theorem dX2_pour_35 : decode cX2_pour 35 = .ok (.getfield 42, 3) := by decide +kernel
theorem dX2_pour_38 : decode cX2_pour 38 = .ok (.istore 6, 2) := by decide +kernel
theorem dX2_pour_40 : decode cX2_pour 40 = .ok (.iload 6, 2) := by decide +kernel
theorem dX2_pour_42 : decode cX2_pour 42 = .ok (.sipush 360, 3) := by decide +kernel
theorem dX2_pour_45 : decode cX2_pour 45 = .ok (.if_icmp .ge 110, 3) := by decide +kernel
theorem dX2_pour_48 : decode cX2_pour 48 = .ok (.aload_n 0, 1) := by decide +kernel
theorem dX2_pour_49 : decode cX2_pour 49 = .ok (.getfield 18, 3) := by decide +kernel
theorem dX2_pour_52 : decode cX2_pour 52 = .ok (.iload 4, 2) := by decide +kernel
theorem dX2_pour_54 : decode cX2_pour 54 = .ok (.if_icmp .ge 101, 3) := by decide +kernel
theorem dX2_pour_57 : decode cX2_pour 57 = .ok (.aload_n 3, 1) := by decide +kernel
theorem dX2_pour_58 : decode cX2_pour 58 = .ok (.iload 6, 2) := by decide +kernel
theorem dX2_pour_60 : decode cX2_pour 60 = .ok (.iaload, 1) := by decide +kernel
theorem dX2_pour_61 : decode cX2_pour 61 = .ok (.ifCond .ne 88, 3) := by decide +kernel
theorem dX2_pour_64 : decode cX2_pour 64 = .ok (.iload 6, 2) := by decide +kernel
theorem dX2_pour_66 : decode cX2_pour 66 = .ok (.invokestatic 45, 3) := by decide +kernel
theorem dX2_pour_69 : decode cX2_pour 69 = .ok (.istore 7, 2) := by decide +kernel
theorem dX2_pour_71 : decode cX2_pour 71 = .ok (.aload_n 0, 1) := by decide +kernel
theorem dX2_pour_72 : decode cX2_pour 72 = .ok (.getfield 18, 3) := by decide +kernel
theorem dX2_pour_75 : decode cX2_pour 75 = .ok (.ifCond .le 31, 3) := by decide +kernel
theorem dX2_pour_78 : decode cX2_pour 78 = .ok (.iload 7, 2) := by decide +kernel
theorem dX2_pour_80 : decode cX2_pour 80 = .ok (.iload 5, 2) := by decide +kernel
theorem dX2_pour_82 : decode cX2_pour 82 = .ok (.if_icmp .eq 24, 3) := by decide +kernel
theorem dX2_pour_85 : decode cX2_pour 85 = .ok (.aload_n 3, 1) := by decide +kernel
theorem dX2_pour_86 : decode cX2_pour 86 = .ok (.iload 6, 2) := by decide +kernel
theorem dX2_pour_88 : decode cX2_pour 88 = .ok (.bipush 11, 2) := by decide +kernel
theorem dX2_pour_90 : decode cX2_pour 90 = .ok (.iload_n 2, 1) := by decide +kernel
theorem dX2_pour_91 : decode cX2_pour 91 = .ok (.iadd, 1) := by decide +kernel
theorem dX2_pour_92 : decode cX2_pour 92 = .ok (.iastore, 1) := by decide +kernel
theorem dX2_pour_93 : decode cX2_pour 93 = .ok (.aload_n 0, 1) := by decide +kernel
theorem dX2_pour_94 : decode cX2_pour 94 = .ok (.dup, 1) := by decide +kernel
theorem dX2_pour_95 : decode cX2_pour 95 = .ok (.getfield 22, 3) := by decide +kernel
theorem dX2_pour_98 : decode cX2_pour 98 = .ok (.iconst 1, 1) := by decide +kernel
theorem dX2_pour_99 : decode cX2_pour 99 = .ok (.iadd, 1) := by decide +kernel
theorem dX2_pour_100 : decode cX2_pour 100 = .ok (.putfield 22, 3) := by decide +kernel
theorem dX2_pour_103 : decode cX2_pour 103 = .ok (.goto 42, 3) := by decide +kernel
theorem dX2_pour_106 : decode cX2_pour 106 = .ok (.aload_n 3, 1) := by decide +kernel
theorem dX2_pour_107 : decode cX2_pour 107 = .ok (.iload 6, 2) := by decide +kernel
theorem dX2_pour_109 : decode cX2_pour 109 = .ok (.iconst 1, 1) := by decide +kernel
theorem dX2_pour_110 : decode cX2_pour 110 = .ok (.iload_n 2, 1) := by decide +kernel
theorem dX2_pour_111 : decode cX2_pour 111 = .ok (.iadd, 1) := by decide +kernel
theorem dX2_pour_112 : decode cX2_pour 112 = .ok (.iastore, 1) := by decide +kernel
theorem dX2_pour_113 : decode cX2_pour 113 = .ok (.aload_n 0, 1) := by decide +kernel
theorem dX2_pour_114 : decode cX2_pour 114 = .ok (.getfield 9, 3) := by decide +kernel
theorem dX2_pour_117 : decode cX2_pour 117 = .ok (.aload_n 0, 1) := by decide +kernel
theorem dX2_pour_118 : decode cX2_pour 118 = .ok (.getfield 18, 3) := by decide +kernel
theorem dX2_pour_121 : decode cX2_pour 121 = .ok (.iload 6, 2) := by decide +kernel
theorem dX2_pour_123 : decode cX2_pour 123 = .ok (.iastore, 1) := by decide +kernel
theorem dX2_pour_124 : decode cX2_pour 124 = .ok (.aload_n 0, 1) := by decide +kernel
theorem dX2_pour_125 : decode cX2_pour 125 = .ok (.getfield 15, 3) := by decide +kernel
theorem dX2_pour_128 : decode cX2_pour 128 = .ok (.iload 7, 2) := by decide +kernel
theorem dX2_pour_130 : decode cX2_pour 130 = .ok (.dup2, 1) := by decide +kernel
theorem dX2_pour_131 : decode cX2_pour 131 = .ok (.iaload, 1) := by decide +kernel
theorem dX2_pour_132 : decode cX2_pour 132 = .ok (.iconst 1, 1) := by decide +kernel
theorem dX2_pour_133 : decode cX2_pour 133 = .ok (.iadd, 1) := by decide +kernel
theorem dX2_pour_134 : decode cX2_pour 134 = .ok (.iastore, 1) := by decide +kernel
theorem dX2_pour_135 : decode cX2_pour 135 = .ok (.aload_n 0, 1) := by decide +kernel
theorem dX2_pour_136 : decode cX2_pour 136 = .ok (.dup, 1) := by decide +kernel
theorem dX2_pour_137 : decode cX2_pour 137 = .ok (.getfield 18, 3) := by decide +kernel
theorem dX2_pour_140 : decode cX2_pour 140 = .ok (.iconst 1, 1) := by decide +kernel
theorem dX2_pour_141 : decode cX2_pour 141 = .ok (.iadd, 1) := by decide +kernel
theorem dX2_pour_142 : decode cX2_pour 142 = .ok (.putfield 18, 3) := by decide +kernel
theorem dX2_pour_145 : decode cX2_pour 145 = .ok (.iload 7, 2) := by decide +kernel
theorem dX2_pour_147 : decode cX2_pour 147 = .ok (.istore 5, 2) := by decide +kernel
theorem dX2_pour_149 : decode cX2_pour 149 = .ok (.iinc 6 1, 3) := by decide +kernel
theorem dX2_pour_152 : decode cX2_pour 152 = .ok (.goto (-112), 3) := by decide +kernel
theorem dX2_pour_155 : decode cX2_pour 155 = .ok (.aload_n 0, 1) := by decide +kernel
theorem dX2_pour_156 : decode cX2_pour 156 = .ok (.aload_n 1, 1) := by decide +kernel
theorem dX2_pour_157 : decode cX2_pour 157 = .ok (.getfield 31, 3) := by decide +kernel
theorem dX2_pour_160 : decode cX2_pour 160 = .ok (.aload_n 0, 1) := by decide +kernel
theorem dX2_pour_161 : decode cX2_pour 161 = .ok (.getfield 18, 3) := by decide +kernel
theorem dX2_pour_164 : decode cX2_pour 164 = .ok (.isub, 1) := by decide +kernel
theorem dX2_pour_165 : decode cX2_pour 165 = .ok (.putfield 49, 3) := by decide +kernel
theorem dX2_pour_168 : decode cX2_pour 168 = .ok (.return_, 1) := by decide +kernel
theorem dX2_moduleOf_0 : decode cX2_moduleOf 0 = .ok (.iload_n 1, 1) := by decide +kernel
theorem dX2_moduleOf_1 : decode cX2_moduleOf 1 = .ok (.iconst 0, 1) := by decide +kernel
theorem dX2_moduleOf_2 : decode cX2_moduleOf 2 = .ok (.aload_n 0, 1) := by decide +kernel
theorem dX2_moduleOf_3 : decode cX2_moduleOf 3 = .ok (.getfield 18, 3) := by decide +kernel
theorem dX2_moduleOf_6 : decode cX2_moduleOf 6 = .ok (.iconst 1, 1) := by decide +kernel
theorem dX2_moduleOf_7 : decode cX2_moduleOf 7 = .ok (.isub, 1) := by decide +kernel
theorem dX2_moduleOf_8 : decode cX2_moduleOf 8 = .ok (.invokestatic 52, 3) := by decide +kernel
theorem dX2_moduleOf_11 : decode cX2_moduleOf 11 = .ok (.ifCond .eq 12, 3) := by decide +kernel
theorem dX2_moduleOf_14 : decode cX2_moduleOf 14 = .ok (.aload_n 0, 1) := by decide +kernel
theorem dX2_moduleOf_15 : decode cX2_moduleOf 15 = .ok (.getfield 9, 3) := by decide +kernel
theorem dX2_moduleOf_18 : decode cX2_moduleOf 18 = .ok (.iload_n 1, 1) := by decide +kernel
theorem dX2_moduleOf_19 : decode cX2_moduleOf 19 = .ok (.iaload, 1) := by decide +kernel
theorem dX2_moduleOf_20 : decode cX2_moduleOf 20 = .ok (.goto 5, 3) := by decide +kernel
theorem dX2_moduleOf_23 : decode cX2_moduleOf 23 = .ok (.bipush (-99), 2) := by decide +kernel
theorem dX2_moduleOf_25 : decode cX2_moduleOf 25 = .ok (.ireturn, 1) := by decide +kernel
theorem dX4_cover_0 : decode cX4_cover 0 = .ok (.aload_n 1, 1) := by decide +kernel
theorem dX4_cover_1 : decode cX4_cover 1 = .ok (.getfield 60, 3) := by decide +kernel
theorem dX4_cover_4 : decode cX4_cover 4 = .ok (.aload_n 1, 1) := by decide +kernel
theorem dX4_cover_5 : decode cX4_cover 5 = .ok (.getfield 63, 3) := by decide +kernel
theorem dX4_cover_8 : decode cX4_cover 8 = .ok (.iadd, 1) := by decide +kernel
theorem dX4_cover_9 : decode cX4_cover 9 = .ok (.bipush 6, 2) := by decide +kernel
theorem dX4_cover_11 : decode cX4_cover 11 = .ok (.invokestatic 66, 3) := by decide +kernel
theorem dX4_cover_14 : decode cX4_cover 14 = .ok (.iconst 1, 1) := by decide +kernel
theorem dX4_cover_15 : decode cX4_cover 15 = .ok (.isub, 1) := by decide +kernel
theorem dX4_cover_16 : decode cX4_cover 16 = .ok (.istore_n 3, 1) := by decide +kernel
theorem dX4_cover_17 : decode cX4_cover 17 = .ok (.aload_n 1, 1) := by decide +kernel
theorem dX4_cover_18 : decode cX4_cover 18 = .ok (.getfield 72, 3) := by decide +kernel
theorem dX4_cover_21 : decode cX4_cover 21 = .ok (.aload_n 1, 1) := by decide +kernel
theorem dX4_cover_22 : decode cX4_cover 22 = .ok (.getfield 75, 3) := by decide +kernel
theorem dX4_cover_25 : decode cX4_cover 25 = .ok (.iadd, 1) := by decide +kernel
theorem dX4_cover_26 : decode cX4_cover 26 = .ok (.bipush 20, 2) := by decide +kernel
theorem dX4_cover_28 : decode cX4_cover 28 = .ok (.invokestatic 66, 3) := by decide +kernel
theorem dX4_cover_31 : decode cX4_cover 31 = .ok (.iconst 1, 1) := by decide +kernel
theorem dX4_cover_32 : decode cX4_cover 32 = .ok (.isub, 1) := by decide +kernel
theorem dX4_cover_33 : decode cX4_cover 33 = .ok (.istore 4, 2) := by decide +kernel
theorem dX4_cover_35 : decode cX4_cover 35 = .ok (.aload_n 1, 1) := by decide +kernel
theorem dX4_cover_36 : decode cX4_cover 36 = .ok (.getfield 60, 3) := by decide +kernel
theorem dX4_cover_39 : decode cX4_cover 39 = .ok (.istore 5, 2) := by decide +kernel
theorem dX4_cover_41 : decode cX4_cover 41 = .ok (.iload 5, 2) := by decide +kernel
theorem dX4_cover_43 : decode cX4_cover 43 = .ok (.iload_n 3, 1) := by decide +kernel
theorem dX4_cover_44 : decode cX4_cover 44 = .ok (.if_icmp .gt 45, 3) := by decide +kernel
theorem dX4_cover_47 : decode cX4_cover 47 = .ok (.aload_n 1, 1) := by decide +kernel
theorem dX4_cover_48 : decode cX4_cover 48 = .ok (.getfield 72, 3) := by decide +kernel
theorem dX4_cover_51 : decode cX4_cover 51 = .ok (.istore 6, 2) := by decide +kernel
theorem dX4_cover_53 : decode cX4_cover 53 = .ok (.iload 6, 2) := by decide +kernel
theorem dX4_cover_55 : decode cX4_cover 55 = .ok (.iload 4, 2) := by decide +kernel
theorem dX4_cover_57 : decode cX4_cover 57 = .ok (.if_icmp .gt 26, 3) := by decide +kernel
theorem dX4_cover_60 : decode cX4_cover 60 = .ok (.aload_n 0, 1) := by decide +kernel
theorem dX4_cover_61 : decode cX4_cover 61 = .ok (.getfield 9, 3) := by decide +kernel
theorem dX4_cover_64 : decode cX4_cover 64 = .ok (.aload_n 1, 1) := by decide +kernel
theorem dX4_cover_65 : decode cX4_cover 65 = .ok (.getfield 78, 3) := by decide +kernel
theorem dX4_cover_68 : decode cX4_cover 68 = .ok (.iload 5, 2) := by decide +kernel
theorem dX4_cover_70 : decode cX4_cover 70 = .ok (.iload 6, 2) := by decide +kernel
theorem dX4_cover_72 : decode cX4_cover 72 = .ok (.invokestatic 81, 3) := by decide +kernel
theorem dX4_cover_75 : decode cX4_cover 75 = .ok (.iload_n 2, 1) := by decide +kernel
theorem dX4_cover_76 : decode cX4_cover 76 = .ok (.iastore, 1) := by decide +kernel
theorem dX4_cover_77 : decode cX4_cover 77 = .ok (.iinc 6 1, 3) := by decide +kernel
theorem dX4_cover_80 : decode cX4_cover 80 = .ok (.goto (-27), 3) := by decide +kernel
theorem dX4_cover_83 : decode cX4_cover 83 = .ok (.iinc 5 1, 3) := by decide +kernel
theorem dX4_cover_86 : decode cX4_cover 86 = .ok (.goto (-45), 3) := by decide +kernel
theorem dX4_cover_89 : decode cX4_cover 89 = .ok (.return_, 1) := by decide +kernel
theorem dX5_moveTo_0 : decode cX5_moveTo 0 = .ok (.aload_n 0, 1) := by decide +kernel
theorem dX5_moveTo_1 : decode cX5_moveTo 1 = .ok (.iconst 1, 1) := by decide +kernel
theorem dX5_moveTo_2 : decode cX5_moveTo 2 = .ok (.putfield 24, 3) := by decide +kernel
theorem dX5_moveTo_5 : decode cX5_moveTo 5 = .ok (.aload_n 0, 1) := by decide +kernel
theorem dX5_moveTo_6 : decode cX5_moveTo 6 = .ok (.iload_n 1, 1) := by decide +kernel
theorem dX5_moveTo_7 : decode cX5_moveTo 7 = .ok (.invokestatic 37, 3) := by decide +kernel
theorem dX5_moveTo_10 : decode cX5_moveTo 10 = .ok (.putfield 28, 3) := by decide +kernel
theorem dX5_moveTo_13 : decode cX5_moveTo 13 = .ok (.aload_n 0, 1) := by decide +kernel
theorem dX5_moveTo_14 : decode cX5_moveTo 14 = .ok (.iload_n 1, 1) := by decide +kernel
theorem dX5_moveTo_15 : decode cX5_moveTo 15 = .ok (.invokestatic 41, 3) := by decide +kernel
theorem dX5_moveTo_18 : decode cX5_moveTo 18 = .ok (.putfield 31, 3) := by decide +kernel
theorem dX5_moveTo_21 : decode cX5_moveTo 21 = .ok (.aload_n 0, 1) := by decide +kernel
theorem dX5_moveTo_22 : decode cX5_moveTo 22 = .ok (.iload_n 1, 1) := by decide +kernel
theorem dX5_moveTo_23 : decode cX5_moveTo 23 = .ok (.invokestatic 44, 3) := by decide +kernel
theorem dX5_moveTo_26 : decode cX5_moveTo 26 = .ok (.putfield 34, 3) := by decide +kernel
theorem dX5_moveTo_29 : decode cX5_moveTo 29 = .ok (.return_, 1) := by decide +kernel
theorem dX5_leaning_0 : decode cX5_leaning 0 = .ok (.iconst 0, 1) := by decide +kernel
theorem dX5_leaning_1 : decode cX5_leaning 1 = .ok (.aload_n 0, 1) := by decide +kernel
theorem dX5_leaning_2 : decode cX5_leaning 2 = .ok (.getfield 18, 3) := by decide +kernel
theorem dX5_leaning_5 : decode cX5_leaning 5 = .ok (.iconst 3, 1) := by decide +kernel
theorem dX5_leaning_6 : decode cX5_leaning 6 = .ok (.aload_n 0, 1) := by decide +kernel
theorem dX5_leaning_7 : decode cX5_leaning 7 = .ok (.getfield 31, 3) := by decide +kernel
theorem dX5_leaning_10 : decode cX5_leaning 10 = .ok (.isub, 1) := by decide +kernel
theorem dX5_leaning_11 : decode cX5_leaning 11 = .ok (.invokestatic 47, 3) := by decide +kernel
theorem dX5_leaning_14 : decode cX5_leaning 14 = .ok (.invokestatic 53, 3) := by decide +kernel
theorem dX5_leaning_17 : decode cX5_leaning 17 = .ok (.istore_n 1, 1) := by decide +kernel
theorem dX5_leaning_18 : decode cX5_leaning 18 = .ok (.iconst 2, 1) := by decide +kernel
theorem dX5_leaning_19 : decode cX5_leaning 19 = .ok (.iload_n 1, 1) := by decide +kernel
theorem dX5_leaning_20 : decode cX5_leaning 20 = .ok (.imul, 1) := by decide +kernel
theorem dX5_leaning_21 : decode cX5_leaning 21 = .ok (.aload_n 0, 1) := by decide +kernel
theorem dX5_leaning_22 : decode cX5_leaning 22 = .ok (.getfield 18, 3) := by decide +kernel
theorem dX5_leaning_25 : decode cX5_leaning 25 = .ok (.isub, 1) := by decide +kernel
theorem dX5_leaning_26 : decode cX5_leaning 26 = .ok (.aload_n 0, 1) := by decide +kernel
theorem dX5_leaning_27 : decode cX5_leaning 27 = .ok (.getfield 21, 3) := by decide +kernel
theorem dX5_leaning_30 : decode cX5_leaning 30 = .ok (.imul, 1) := by decide +kernel
theorem dX5_leaning_31 : decode cX5_leaning 31 = .ok (.ireturn, 1) := by decide +kernel
theorem dX5_distanceFromModule_0 : decode cX5_distanceFromModule 0 = .ok (.aload_n 0, 1) := by decide +kernel
theorem dX5_distanceFromModule_1 : decode cX5_distanceFromModule 1 = .ok (.getfield 31, 3) := by decide +kernel
theorem dX5_distanceFromModule_4 : decode cX5_distanceFromModule 4 = .ok (.aload_n 0, 1) := by decide +kernel
theorem dX5_distanceFromModule_5 : decode cX5_distanceFromModule 5 = .ok (.getfield 18, 3) := by decide +kernel
theorem dX5_distanceFromModule_8 : decode cX5_distanceFromModule 8 = .ok (.iload_n 1, 1) := by decide +kernel
theorem dX5_distanceFromModule_9 : decode cX5_distanceFromModule 9 = .ok (.invokestatic 41, 3) := by decide +kernel
theorem dX5_distanceFromModule_12 : decode cX5_distanceFromModule 12 = .ok (.iconst 1, 1) := by decide +kernel
theorem dX5_distanceFromModule_13 : decode cX5_distanceFromModule 13 = .ok (.invokestatic 56, 3) := by decide +kernel
theorem dX5_distanceFromModule_16 : decode cX5_distanceFromModule 16 = .ok (.aload_n 0, 1) := by decide +kernel
theorem dX5_distanceFromModule_17 : decode cX5_distanceFromModule 17 = .ok (.getfield 34, 3) := by decide +kernel
theorem dX5_distanceFromModule_20 : decode cX5_distanceFromModule 20 = .ok (.aload_n 0, 1) := by decide +kernel
theorem dX5_distanceFromModule_21 : decode cX5_distanceFromModule 21 = .ok (.getfield 21, 3) := by decide +kernel
theorem dX5_distanceFromModule_24 : decode cX5_distanceFromModule 24 = .ok (.iload_n 1, 1) := by decide +kernel
theorem dX5_distanceFromModule_25 : decode cX5_distanceFromModule 25 = .ok (.invokestatic 44, 3) := by decide +kernel
theorem dX5_distanceFromModule_28 : decode cX5_distanceFromModule 28 = .ok (.iconst 1, 1) := by decide +kernel
theorem dX5_distanceFromModule_29 : decode cX5_distanceFromModule 29 = .ok (.invokestatic 56, 3) := by decide +kernel
theorem dX5_distanceFromModule_32 : decode cX5_distanceFromModule 32 = .ok (.invokestatic 53, 3) := by decide +kernel
theorem dX5_distanceFromModule_35 : decode cX5_distanceFromModule 35 = .ok (.ireturn, 1) := by decide +kernel
theorem dX5_distanceFromQuote_0 : decode cX5_distanceFromQuote 0 = .ok (.aload_n 0, 1) := by decide +kernel
theorem dX5_distanceFromQuote_1 : decode cX5_distanceFromQuote 1 = .ok (.getfield 31, 3) := by decide +kernel
theorem dX5_distanceFromQuote_4 : decode cX5_distanceFromQuote 4 = .ok (.aload_n 0, 1) := by decide +kernel
theorem dX5_distanceFromQuote_5 : decode cX5_distanceFromQuote 5 = .ok (.getfield 18, 3) := by decide +kernel
theorem dX5_distanceFromQuote_8 : decode cX5_distanceFromQuote 8 = .ok (.aload_n 1, 1) := by decide +kernel
theorem dX5_distanceFromQuote_9 : decode cX5_distanceFromQuote 9 = .ok (.getfield 31, 3) := by decide +kernel
theorem dX5_distanceFromQuote_12 : decode cX5_distanceFromQuote 12 = .ok (.aload_n 1, 1) := by decide +kernel
theorem dX5_distanceFromQuote_13 : decode cX5_distanceFromQuote 13 = .ok (.getfield 18, 3) := by decide +kernel
theorem dX5_distanceFromQuote_16 : decode cX5_distanceFromQuote 16 = .ok (.invokestatic 56, 3) := by decide +kernel
theorem dX5_distanceFromQuote_19 : decode cX5_distanceFromQuote 19 = .ok (.aload_n 0, 1) := by decide +kernel
theorem dX5_distanceFromQuote_20 : decode cX5_distanceFromQuote 20 = .ok (.getfield 34, 3) := by decide +kernel
theorem dX5_distanceFromQuote_23 : decode cX5_distanceFromQuote 23 = .ok (.aload_n 0, 1) := by decide +kernel
theorem dX5_distanceFromQuote_24 : decode cX5_distanceFromQuote 24 = .ok (.getfield 21, 3) := by decide +kernel
theorem dX5_distanceFromQuote_27 : decode cX5_distanceFromQuote 27 = .ok (.aload_n 1, 1) := by decide +kernel
theorem dX5_distanceFromQuote_28 : decode cX5_distanceFromQuote 28 = .ok (.getfield 34, 3) := by decide +kernel
theorem dX5_distanceFromQuote_31 : decode cX5_distanceFromQuote 31 = .ok (.aload_n 1, 1) := by decide +kernel
theorem dX5_distanceFromQuote_32 : decode cX5_distanceFromQuote 32 = .ok (.getfield 21, 3) := by decide +kernel
theorem dX5_distanceFromQuote_35 : decode cX5_distanceFromQuote 35 = .ok (.invokestatic 56, 3) := by decide +kernel
theorem dX5_distanceFromQuote_38 : decode cX5_distanceFromQuote 38 = .ok (.invokestatic 53, 3) := by decide +kernel
theorem dX5_distanceFromQuote_41 : decode cX5_distanceFromQuote 41 = .ok (.ireturn, 1) := by decide +kernel
theorem dX6_isDigit_0 : decode cX6_isDigit 0 = .ok (.iload_n 0, 1) := by decide +kernel
theorem dX6_isDigit_1 : decode cX6_isDigit 1 = .ok (.bipush 48, 2) := by decide +kernel
theorem dX6_isDigit_3 : decode cX6_isDigit 3 = .ok (.bipush 57, 2) := by decide +kernel
theorem dX6_isDigit_5 : decode cX6_isDigit 5 = .ok (.invokestatic 117, 3) := by decide +kernel
theorem dX6_isDigit_8 : decode cX6_isDigit 8 = .ok (.ireturn, 1) := by decide +kernel
theorem dX6_failAt_0 : decode cX6_failAt 0 = .ok (.aload_n 0, 1) := by decide +kernel
theorem dX6_failAt_1 : decode cX6_failAt 1 = .ok (.invokevirtual 39, 3) := by decide +kernel
theorem dX6_failAt_4 : decode cX6_failAt 4 = .ok (.ifCond .ne 8, 3) := by decide +kernel
theorem dX6_failAt_7 : decode cX6_failAt 7 = .ok (.aload_n 0, 1) := by decide +kernel
theorem dX6_failAt_8 : decode cX6_failAt 8 = .ok (.iload_n 1, 1) := by decide +kernel
theorem dX6_failAt_9 : decode cX6_failAt 9 = .ok (.putfield 25, 3) := by decide +kernel
theorem dX6_failAt_12 : decode cX6_failAt 12 = .ok (.return_, 1) := by decide +kernel
theorem dX10_append_0 : decode cX10_append 0 = .ok (.iload_n 1, 1) := by decide +kernel
theorem dX10_append_1 : decode cX10_append 1 = .ok (.iconst 1, 1) := by decide +kernel
theorem dX10_append_2 : decode cX10_append 2 = .ok (.sipush 255, 3) := by decide +kernel
theorem dX10_append_5 : decode cX10_append 5 = .ok (.invokestatic 61, 3) := by decide +kernel
theorem dX10_append_8 : decode cX10_append 8 = .ok (.ifCond .ne 5, 3) := by decide +kernel
theorem dX10_append_11 : decode cX10_append 11 = .ok (.iconst (-1), 1) := by decide +kernel
theorem dX10_append_12 : decode cX10_append 12 = .ok (.ireturn, 1) := by decide +kernel
theorem dX10_append_13 : decode cX10_append 13 = .ok (.aload_n 0, 1) := by decide +kernel
theorem dX10_append_14 : decode cX10_append 14 = .ok (.getfield 34, 3) := by decide +kernel
theorem dX10_append_17 : decode cX10_append 17 = .ok (.getfield 189, 3) := by decide +kernel
theorem dX10_append_20 : decode cX10_append 20 = .ok (.sipush 140, 3) := by decide +kernel
theorem dX10_append_23 : decode cX10_append 23 = .ok (.if_icmp .lt 6, 3) := by decide +kernel
theorem dX10_append_26 : decode cX10_append 26 = .ok (.bipush (-3), 2) := by decide +kernel
theorem dX10_append_28 : decode cX10_append 28 = .ok (.ireturn, 1) := by decide +kernel
theorem dX10_append_29 : decode cX10_append 29 = .ok (.aload_n 0, 1) := by decide +kernel
theorem dX10_append_30 : decode cX10_append 30 = .ok (.getfield 34, 3) := by decide +kernel
theorem dX10_append_33 : decode cX10_append 33 = .ok (.getfield 192, 3) := by decide +kernel
theorem dX10_append_36 : decode cX10_append 36 = .ok (.aload_n 0, 1) := by decide +kernel
theorem dX10_append_37 : decode cX10_append 37 = .ok (.getfield 34, 3) := by decide +kernel
theorem dX10_append_40 : decode cX10_append 40 = .ok (.getfield 189, 3) := by decide +kernel
theorem dX10_append_43 : decode cX10_append 43 = .ok (.iload_n 1, 1) := by decide +kernel
theorem dX10_append_44 : decode cX10_append 44 = .ok (.iastore, 1) := by decide +kernel
theorem dX10_append_45 : decode cX10_append 45 = .ok (.aload_n 0, 1) := by decide +kernel
theorem dX10_append_46 : decode cX10_append 46 = .ok (.getfield 34, 3) := by decide +kernel
theorem dX10_append_49 : decode cX10_append 49 = .ok (.dup, 1) := by decide +kernel
theorem dX10_append_50 : decode cX10_append 50 = .ok (.getfield 189, 3) := by decide +kernel
theorem dX10_append_53 : decode cX10_append 53 = .ok (.iconst 1, 1) := by decide +kernel
theorem dX10_append_54 : decode cX10_append 54 = .ok (.iadd, 1) := by decide +kernel
theorem dX10_append_55 : decode cX10_append 55 = .ok (.putfield 189, 3) := by decide +kernel
theorem dX10_append_58 : decode cX10_append 58 = .ok (.aload_n 0, 1) := by decide +kernel
theorem dX10_append_59 : decode cX10_append 59 = .ok (.getfield 34, 3) := by decide +kernel
theorem dX10_append_62 : decode cX10_append 62 = .ok (.getfield 189, 3) := by decide +kernel
theorem dX10_append_65 : decode cX10_append 65 = .ok (.ireturn, 1) := by decide +kernel
theorem dX10_isModule_0 : decode cX10_isModule 0 = .ok (.iload_n 0, 1) := by decide +kernel
theorem dX10_isModule_1 : decode cX10_isModule 1 = .ok (.iconst 0, 1) := by decide +kernel
theorem dX10_isModule_2 : decode cX10_isModule 2 = .ok (.sipush 359, 3) := by decide +kernel
theorem dX10_isModule_5 : decode cX10_isModule 5 = .ok (.invokestatic 61, 3) := by decide +kernel
theorem dX10_isModule_8 : decode cX10_isModule 8 = .ok (.ireturn, 1) := by decide +kernel
theorem dX10_isPlace_0 : decode cX10_isPlace 0 = .ok (.iload_n 0, 1) := by decide +kernel
theorem dX10_isPlace_1 : decode cX10_isPlace 1 = .ok (.iconst 0, 1) := by decide +kernel
theorem dX10_isPlace_2 : decode cX10_isPlace 2 = .ok (.iconst 2, 1) := by decide +kernel
theorem dX10_isPlace_3 : decode cX10_isPlace 3 = .ok (.invokestatic 61, 3) := by decide +kernel
theorem dX10_isPlace_6 : decode cX10_isPlace 6 = .ok (.ifCond .eq 26, 3) := by decide +kernel
theorem dX10_isPlace_9 : decode cX10_isPlace 9 = .ok (.iload_n 1, 1) := by decide +kernel
theorem dX10_isPlace_10 : decode cX10_isPlace 10 = .ok (.iconst 0, 1) := by decide +kernel
theorem dX10_isPlace_11 : decode cX10_isPlace 11 = .ok (.iconst 5, 1) := by decide +kernel
theorem dX10_isPlace_12 : decode cX10_isPlace 12 = .ok (.invokestatic 61, 3) := by decide +kernel
theorem dX10_isPlace_15 : decode cX10_isPlace 15 = .ok (.ifCond .eq 17, 3) := by decide +kernel
theorem dX10_isPlace_18 : decode cX10_isPlace 18 = .ok (.iload_n 2, 1) := by decide +kernel
theorem dX10_isPlace_19 : decode cX10_isPlace 19 = .ok (.iconst 0, 1) := by decide +kernel
theorem dX10_isPlace_20 : decode cX10_isPlace 20 = .ok (.bipush 19, 2) := by decide +kernel
theorem dX10_isPlace_22 : decode cX10_isPlace 22 = .ok (.invokestatic 61, 3) := by decide +kernel
theorem dX10_isPlace_25 : decode cX10_isPlace 25 = .ok (.ifCond .eq 7, 3) := by decide +kernel
theorem dX10_isPlace_28 : decode cX10_isPlace 28 = .ok (.iconst 1, 1) := by decide +kernel
theorem dX10_isPlace_29 : decode cX10_isPlace 29 = .ok (.goto 4, 3) := by decide +kernel
theorem dX10_isPlace_32 : decode cX10_isPlace 32 = .ok (.iconst 0, 1) := by decide +kernel
theorem dX10_isPlace_33 : decode cX10_isPlace 33 = .ok (.ireturn, 1) := by decide +kernel
theorem dX11_isArticle_0 : decode cX11_isArticle 0 = .ok (.iload_n 1, 1) := by decide +kernel
theorem dX11_isArticle_1 : decode cX11_isArticle 1 = .ok (.iconst 0, 1) := by decide +kernel
theorem dX11_isArticle_2 : decode cX11_isArticle 2 = .ok (.aload_n 0, 1) := by decide +kernel
theorem dX11_isArticle_3 : decode cX11_isArticle 3 = .ok (.getfield 7, 3) := by decide +kernel
theorem dX11_isArticle_6 : decode cX11_isArticle 6 = .ok (.iconst 0, 1) := by decide +kernel
theorem dX11_isArticle_7 : decode cX11_isArticle 7 = .ok (.iaload, 1) := by decide +kernel
theorem dX11_isArticle_8 : decode cX11_isArticle 8 = .ok (.iconst 1, 1) := by decide +kernel
theorem dX11_isArticle_9 : decode cX11_isArticle 9 = .ok (.isub, 1) := by decide +kernel
theorem dX11_isArticle_10 : decode cX11_isArticle 10 = .ok (.invokestatic 44, 3) := by decide +kernel
theorem dX11_isArticle_13 : decode cX11_isArticle 13 = .ok (.ireturn, 1) := by decide +kernel
theorem dX11_isQuote_0 : decode cX11_isQuote 0 = .ok (.iload_n 1, 1) := by decide +kernel
theorem dX11_isQuote_1 : decode cX11_isQuote 1 = .ok (.iconst 0, 1) := by decide +kernel
theorem dX11_isQuote_2 : decode cX11_isQuote 2 = .ok (.aload_n 0, 1) := by decide +kernel
theorem dX11_isQuote_3 : decode cX11_isQuote 3 = .ok (.getfield 7, 3) := by decide +kernel
theorem dX11_isQuote_6 : decode cX11_isQuote 6 = .ok (.iconst 1, 1) := by decide +kernel
theorem dX11_isQuote_7 : decode cX11_isQuote 7 = .ok (.iaload, 1) := by decide +kernel
theorem dX11_isQuote_8 : decode cX11_isQuote 8 = .ok (.iconst 1, 1) := by decide +kernel
theorem dX11_isQuote_9 : decode cX11_isQuote 9 = .ok (.isub, 1) := by decide +kernel
theorem dX11_isQuote_10 : decode cX11_isQuote 10 = .ok (.invokestatic 44, 3) := by decide +kernel
theorem dX11_isQuote_13 : decode cX11_isQuote 13 = .ok (.ireturn, 1) := by decide +kernel
theorem dX11_isPlaced_0 : decode cX11_isPlaced 0 = .ok (.aload_n 0, 1) := by decide +kernel
theorem dX11_isPlaced_1 : decode cX11_isPlaced 1 = .ok (.iload_n 1, 1) := by decide +kernel
theorem dX11_isPlaced_2 : decode cX11_isPlaced 2 = .ok (.iconst 4, 1) := by decide +kernel
theorem dX11_isPlaced_3 : decode cX11_isPlaced 3 = .ok (.invokevirtual 56, 3) := by decide +kernel
theorem dX11_isPlaced_6 : decode cX11_isPlaced 6 = .ok (.iconst 1, 1) := by decide +kernel
theorem dX11_isPlaced_7 : decode cX11_isPlaced 7 = .ok (.if_icmp .ne 7, 3) := by decide +kernel
theorem dX11_isPlaced_10 : decode cX11_isPlaced 10 = .ok (.iconst 1, 1) := by decide +kernel
theorem dX11_isPlaced_11 : decode cX11_isPlaced 11 = .ok (.goto 4, 3) := by decide +kernel
theorem dX11_isPlaced_14 : decode cX11_isPlaced 14 = .ok (.iconst 0, 1) := by decide +kernel
theorem dX11_isPlaced_15 : decode cX11_isPlaced 15 = .ok (.ireturn, 1) := by decide +kernel
theorem dX11_layQuote_0 : decode cX11_layQuote 0 = .ok (.iconst 0, 1) := by decide +kernel
theorem dX11_layQuote_1 : decode cX11_layQuote 1 = .ok (.istore_n 2, 1) := by decide +kernel
theorem dX11_layQuote_2 : decode cX11_layQuote 2 = .ok (.iload_n 2, 1) := by decide +kernel
theorem dX11_layQuote_3 : decode cX11_layQuote 3 = .ok (.aload_n 0, 1) := by decide +kernel
theorem dX11_layQuote_4 : decode cX11_layQuote 4 = .ok (.iload_n 1, 1) := by decide +kernel
theorem dX11_layQuote_5 : decode cX11_layQuote 5 = .ok (.iconst 2, 1) := by decide +kernel
theorem dX11_layQuote_6 : decode cX11_layQuote 6 = .ok (.invokevirtual 56, 3) := by decide +kernel
theorem dX11_layQuote_9 : decode cX11_layQuote 9 = .ok (.if_icmp .ge 68, 3) := by decide +kernel
theorem dX11_layQuote_12 : decode cX11_layQuote 12 = .ok (.iconst 0, 1) := by decide +kernel
theorem dX11_layQuote_13 : decode cX11_layQuote 13 = .ok (.istore_n 3, 1) := by decide +kernel
theorem dX11_layQuote_14 : decode cX11_layQuote 14 = .ok (.iload_n 3, 1) := by decide +kernel
theorem dX11_layQuote_15 : decode cX11_layQuote 15 = .ok (.aload_n 0, 1) := by decide +kernel
theorem dX11_layQuote_16 : decode cX11_layQuote 16 = .ok (.iload_n 1, 1) := by decide +kernel
theorem dX11_layQuote_17 : decode cX11_layQuote 17 = .ok (.iconst 3, 1) := by decide +kernel
theorem dX11_layQuote_18 : decode cX11_layQuote 18 = .ok (.invokevirtual 56, 3) := by decide +kernel
theorem dX11_layQuote_21 : decode cX11_layQuote 21 = .ok (.if_icmp .ge 50, 3) := by decide +kernel
theorem dX11_layQuote_24 : decode cX11_layQuote 24 = .ok (.aload_n 0, 1) := by decide +kernel
theorem dX11_layQuote_25 : decode cX11_layQuote 25 = .ok (.getfield 22, 3) := by decide +kernel
theorem dX11_layQuote_28 : decode cX11_layQuote 28 = .ok (.bipush 120, 2) := by decide +kernel
theorem dX11_layQuote_30 : decode cX11_layQuote 30 = .ok (.aload_n 0, 1) := by decide +kernel
theorem dX11_layQuote_31 : decode cX11_layQuote 31 = .ok (.iload_n 1, 1) := by decide +kernel
theorem dX11_layQuote_32 : decode cX11_layQuote 32 = .ok (.iconst 5, 1) := by decide +kernel
theorem dX11_layQuote_33 : decode cX11_layQuote 33 = .ok (.invokevirtual 56, 3) := by decide +kernel
theorem dX11_layQuote_36 : decode cX11_layQuote 36 = .ok (.imul, 1) := by decide +kernel
theorem dX11_layQuote_37 : decode cX11_layQuote 37 = .ok (.bipush 20, 2) := by decide +kernel
theorem dX11_layQuote_39 : decode cX11_layQuote 39 = .ok (.aload_n 0, 1) := by decide +kernel
theorem dX11_layQuote_40 : decode cX11_layQuote 40 = .ok (.iload_n 1, 1) := by decide +kernel
theorem dX11_layQuote_41 : decode cX11_layQuote 41 = .ok (.bipush 6, 2) := by decide +kernel
theorem dX11_layQuote_43 : decode cX11_layQuote 43 = .ok (.invokevirtual 56, 3) := by decide +kernel
theorem dX11_layQuote_46 : decode cX11_layQuote 46 = .ok (.iload_n 2, 1) := by decide +kernel
theorem dX11_layQuote_47 : decode cX11_layQuote 47 = .ok (.iadd, 1) := by decide +kernel
theorem dX11_layQuote_48 : decode cX11_layQuote 48 = .ok (.imul, 1) := by decide +kernel
theorem dX11_layQuote_49 : decode cX11_layQuote 49 = .ok (.iadd, 1) := by decide +kernel
theorem dX11_layQuote_50 : decode cX11_layQuote 50 = .ok (.aload_n 0, 1) := by decide +kernel
theorem dX11_layQuote_51 : decode cX11_layQuote 51 = .ok (.iload_n 1, 1) := by decide +kernel
theorem dX11_layQuote_52 : decode cX11_layQuote 52 = .ok (.bipush 7, 2) := by decide +kernel
theorem dX11_layQuote_54 : decode cX11_layQuote 54 = .ok (.invokevirtual 56, 3) := by decide +kernel
theorem dX11_layQuote_57 : decode cX11_layQuote 57 = .ok (.iadd, 1) := by decide +kernel
theorem dX11_layQuote_58 : decode cX11_layQuote 58 = .ok (.iload_n 3, 1) := by decide +kernel
theorem dX11_layQuote_59 : decode cX11_layQuote 59 = .ok (.iadd, 1) := by decide +kernel
theorem dX11_layQuote_60 : decode cX11_layQuote 60 = .ok (.bipush 21, 2) := by decide +kernel
theorem dX11_layQuote_62 : decode cX11_layQuote 62 = .ok (.iload_n 1, 1) := by decide +kernel
theorem dX11_layQuote_63 : decode cX11_layQuote 63 = .ok (.iadd, 1) := by decide +kernel
theorem dX11_layQuote_64 : decode cX11_layQuote 64 = .ok (.iastore, 1) := by decide +kernel
theorem dX11_layQuote_65 : decode cX11_layQuote 65 = .ok (.iinc 3 1, 3) := by decide +kernel
theorem dX11_layQuote_68 : decode cX11_layQuote 68 = .ok (.goto (-54), 3) := by decide +kernel
theorem dX11_layQuote_71 : decode cX11_layQuote 71 = .ok (.iinc 2 1, 3) := by decide +kernel
theorem dX11_layQuote_74 : decode cX11_layQuote 74 = .ok (.goto (-72), 3) := by decide +kernel
theorem dX11_layQuote_77 : decode cX11_layQuote 77 = .ok (.return_, 1) := by decide +kernel
theorem dX11_layArticle_0 : decode cX11_layArticle 0 = .ok (.iconst 0, 1) := by decide +kernel
theorem dX11_layArticle_1 : decode cX11_layArticle 1 = .ok (.istore_n 2, 1) := by decide +kernel
theorem dX11_layArticle_2 : decode cX11_layArticle 2 = .ok (.bipush (-99), 2) := by decide +kernel
theorem dX11_layArticle_4 : decode cX11_layArticle 4 = .ok (.istore_n 3, 1) := by decide +kernel
theorem dX11_layArticle_5 : decode cX11_layArticle 5 = .ok (.bipush (-99), 2) := by decide +kernel
theorem dX11_layArticle_7 : decode cX11_layArticle 7 = .ok (.istore 4, 2) := by decide +kernel
theorem dX11_layArticle_9 : decode cX11_layArticle 9 = .ok (.aload_n 0, 1) := by decide +kernel
theorem dX11_layArticle_10 : decode cX11_layArticle 10 = .ok (.getfield 31, 3) := by decide +kernel
theorem dX11_layArticle_13 : decode cX11_layArticle 13 = .ok (.iload_n 1, 1) := by decide +kernel
theorem dX11_layArticle_14 : decode cX11_layArticle 14 = .ok (.iconst 0, 1) := by decide +kernel
theorem dX11_layArticle_15 : decode cX11_layArticle 15 = .ok (.iastore, 1) := by decide +kernel
theorem dX11_layArticle_16 : decode cX11_layArticle 16 = .ok (.aload_n 0, 1) := by decide +kernel
theorem dX11_layArticle_17 : decode cX11_layArticle 17 = .ok (.iload_n 1, 1) := by decide +kernel
theorem dX11_layArticle_18 : decode cX11_layArticle 18 = .ok (.iconst 0, 1) := by decide +kernel
theorem dX11_layArticle_19 : decode cX11_layArticle 19 = .ok (.invokevirtual 52, 3) := by decide +kernel
theorem dX11_layArticle_22 : decode cX11_layArticle 22 = .ok (.istore 5, 2) := by decide +kernel
theorem dX11_layArticle_24 : decode cX11_layArticle 24 = .ok (.iload 5, 2) := by decide +kernel
theorem dX11_layArticle_26 : decode cX11_layArticle 26 = .ok (.sipush 360, 3) := by decide +kernel
theorem dX11_layArticle_29 : decode cX11_layArticle 29 = .ok (.if_icmp .ge 123, 3) := by decide +kernel
theorem dX11_layArticle_32 : decode cX11_layArticle 32 = .ok (.iload_n 2, 1) := by decide +kernel
theorem dX11_layArticle_33 : decode cX11_layArticle 33 = .ok (.aload_n 0, 1) := by decide +kernel
theorem dX11_layArticle_34 : decode cX11_layArticle 34 = .ok (.iload_n 1, 1) := by decide +kernel
theorem dX11_layArticle_35 : decode cX11_layArticle 35 = .ok (.iconst 1, 1) := by decide +kernel
theorem dX11_layArticle_36 : decode cX11_layArticle 36 = .ok (.invokevirtual 52, 3) := by decide +kernel
theorem dX11_layArticle_39 : decode cX11_layArticle 39 = .ok (.if_icmp .ge 113, 3) := by decide +kernel
theorem dX11_layArticle_42 : decode cX11_layArticle 42 = .ok (.iload 5, 2) := by decide +kernel
theorem dX11_layArticle_44 : decode cX11_layArticle 44 = .ok (.bipush 120, 2) := by decide +kernel
theorem dX11_layArticle_46 : decode cX11_layArticle 46 = .ok (.idiv, 1) := by decide +kernel
theorem dX11_layArticle_47 : decode cX11_layArticle 47 = .ok (.istore 6, 2) := by decide +kernel
theorem dX11_layArticle_49 : decode cX11_layArticle 49 = .ok (.aload_n 0, 1) := by decide +kernel
theorem dX11_layArticle_50 : decode cX11_layArticle 50 = .ok (.getfield 22, 3) := by decide +kernel
theorem dX11_layArticle_53 : decode cX11_layArticle 53 = .ok (.iload 5, 2) := by decide +kernel
theorem dX11_layArticle_55 : decode cX11_layArticle 55 = .ok (.iaload, 1) := by decide +kernel
theorem dX11_layArticle_56 : decode cX11_layArticle 56 = .ok (.ifCond .ne 50, 3) := by decide +kernel
theorem dX11_layArticle_59 : decode cX11_layArticle 59 = .ok (.iload_n 3, 1) := by decide +kernel
theorem dX11_layArticle_60 : decode cX11_layArticle 60 = .ok (.bipush (-99), 2) := by decide +kernel
theorem dX11_layArticle_62 : decode cX11_layArticle 62 = .ok (.if_icmp .eq 44, 3) := by decide +kernel
theorem dX11_layArticle_65 : decode cX11_layArticle 65 = .ok (.iload_n 3, 1) := by decide +kernel
theorem dX11_layArticle_66 : decode cX11_layArticle 66 = .ok (.iload 6, 2) := by decide +kernel
theorem dX11_layArticle_68 : decode cX11_layArticle 68 = .ok (.if_icmp .ge 38, 3) := by decide +kernel
theorem dX11_layArticle_71 : decode cX11_layArticle 71 = .ok (.iload 4, 2) := by decide +kernel
theorem dX11_layArticle_73 : decode cX11_layArticle 73 = .ok (.iload 6, 2) := by decide +kernel
theorem dX11_layArticle_75 : decode cX11_layArticle 75 = .ok (.if_icmp .eq 31, 3) := by decide +kernel
theorem dX11_layArticle_78 : decode cX11_layArticle 78 = .ok (.aload_n 0, 1) := by decide +kernel
theorem dX11_layArticle_79 : decode cX11_layArticle 79 = .ok (.getfield 22, 3) := by decide +kernel
theorem dX11_layArticle_82 : decode cX11_layArticle 82 = .ok (.iload 5, 2) := by decide +kernel
theorem dX11_layArticle_84 : decode cX11_layArticle 84 = .ok (.bipush 11, 2) := by decide +kernel
theorem dX11_layArticle_86 : decode cX11_layArticle 86 = .ok (.iload_n 1, 1) := by decide +kernel
theorem dX11_layArticle_87 : decode cX11_layArticle 87 = .ok (.iadd, 1) := by decide +kernel
theorem dX11_layArticle_88 : decode cX11_layArticle 88 = .ok (.iastore, 1) := by decide +kernel
theorem dX11_layArticle_89 : decode cX11_layArticle 89 = .ok (.iload 6, 2) := by decide +kernel
theorem dX11_layArticle_91 : decode cX11_layArticle 91 = .ok (.istore 4, 2) := by decide +kernel
theorem dX11_layArticle_93 : decode cX11_layArticle 93 = .ok (.aload_n 0, 1) := by decide +kernel
theorem dX11_layArticle_94 : decode cX11_layArticle 94 = .ok (.getfield 31, 3) := by decide +kernel
theorem dX11_layArticle_97 : decode cX11_layArticle 97 = .ok (.iload_n 1, 1) := by decide +kernel
theorem dX11_layArticle_98 : decode cX11_layArticle 98 = .ok (.dup2, 1) := by decide +kernel
theorem dX11_layArticle_99 : decode cX11_layArticle 99 = .ok (.iaload, 1) := by decide +kernel
theorem dX11_layArticle_100 : decode cX11_layArticle 100 = .ok (.iconst 1, 1) := by decide +kernel
theorem dX11_layArticle_101 : decode cX11_layArticle 101 = .ok (.iadd, 1) := by decide +kernel
theorem dX11_layArticle_102 : decode cX11_layArticle 102 = .ok (.iastore, 1) := by decide +kernel
theorem dX11_layArticle_103 : decode cX11_layArticle 103 = .ok (.goto 43, 3) := by decide +kernel
theorem dX11_layArticle_106 : decode cX11_layArticle 106 = .ok (.aload_n 0, 1) := by decide +kernel
theorem dX11_layArticle_107 : decode cX11_layArticle 107 = .ok (.getfield 22, 3) := by decide +kernel
theorem dX11_layArticle_110 : decode cX11_layArticle 110 = .ok (.iload 5, 2) := by decide +kernel
theorem dX11_layArticle_112 : decode cX11_layArticle 112 = .ok (.iaload, 1) := by decide +kernel
theorem dX11_layArticle_113 : decode cX11_layArticle 113 = .ok (.ifCond .ne 33, 3) := by decide +kernel
theorem dX11_layArticle_116 : decode cX11_layArticle 116 = .ok (.aload_n 0, 1) := by decide +kernel
theorem dX11_layArticle_117 : decode cX11_layArticle 117 = .ok (.getfield 22, 3) := by decide +kernel
theorem dX11_layArticle_120 : decode cX11_layArticle 120 = .ok (.iload 5, 2) := by decide +kernel
theorem dX11_layArticle_122 : decode cX11_layArticle 122 = .ok (.iconst 1, 1) := by decide +kernel
theorem dX11_layArticle_123 : decode cX11_layArticle 123 = .ok (.iload_n 1, 1) := by decide +kernel
theorem dX11_layArticle_124 : decode cX11_layArticle 124 = .ok (.iadd, 1) := by decide +kernel
theorem dX11_layArticle_125 : decode cX11_layArticle 125 = .ok (.iastore, 1) := by decide +kernel
theorem dX11_layArticle_126 : decode cX11_layArticle 126 = .ok (.aload_n 0, 1) := by decide +kernel
theorem dX11_layArticle_127 : decode cX11_layArticle 127 = .ok (.getfield 25, 3) := by decide +kernel
theorem dX11_layArticle_130 : decode cX11_layArticle 130 = .ok (.sipush 200, 3) := by decide +kernel
theorem dX11_layArticle_133 : decode cX11_layArticle 133 = .ok (.iload_n 1, 1) := by decide +kernel
theorem dX11_layArticle_134 : decode cX11_layArticle 134 = .ok (.imul, 1) := by decide +kernel
theorem dX11_layArticle_135 : decode cX11_layArticle 135 = .ok (.iload_n 2, 1) := by decide +kernel
theorem dX11_layArticle_136 : decode cX11_layArticle 136 = .ok (.iadd, 1) := by decide +kernel
theorem dX11_layArticle_137 : decode cX11_layArticle 137 = .ok (.iload 5, 2) := by decide +kernel
theorem dX11_layArticle_139 : decode cX11_layArticle 139 = .ok (.iastore, 1) := by decide +kernel
theorem dX11_layArticle_140 : decode cX11_layArticle 140 = .ok (.iload 6, 2) := by decide +kernel
theorem dX11_layArticle_142 : decode cX11_layArticle 142 = .ok (.istore_n 3, 1) := by decide +kernel
theorem dX11_layArticle_143 : decode cX11_layArticle 143 = .ok (.iinc 2 1, 3) := by decide +kernel
theorem dX11_layArticle_146 : decode cX11_layArticle 146 = .ok (.iinc 5 1, 3) := by decide +kernel
theorem dX11_layArticle_149 : decode cX11_layArticle 149 = .ok (.goto (-125), 3) := by decide +kernel
theorem dX11_layArticle_152 : decode cX11_layArticle 152 = .ok (.aload_n 0, 1) := by decide +kernel
theorem dX11_layArticle_153 : decode cX11_layArticle 153 = .ok (.getfield 28, 3) := by decide +kernel
theorem dX11_layArticle_156 : decode cX11_layArticle 156 = .ok (.iload_n 1, 1) := by decide +kernel
theorem dX11_layArticle_157 : decode cX11_layArticle 157 = .ok (.aload_n 0, 1) := by decide +kernel
theorem dX11_layArticle_158 : decode cX11_layArticle 158 = .ok (.iload_n 1, 1) := by decide +kernel
theorem dX11_layArticle_159 : decode cX11_layArticle 159 = .ok (.iconst 1, 1) := by decide +kernel
theorem dX11_layArticle_160 : decode cX11_layArticle 160 = .ok (.invokevirtual 52, 3) := by decide +kernel
theorem dX11_layArticle_163 : decode cX11_layArticle 163 = .ok (.iload_n 2, 1) := by decide +kernel
theorem dX11_layArticle_164 : decode cX11_layArticle 164 = .ok (.isub, 1) := by decide +kernel
theorem dX11_layArticle_165 : decode cX11_layArticle 165 = .ok (.iastore, 1) := by decide +kernel
theorem dX11_layArticle_166 : decode cX11_layArticle 166 = .ok (.iload_n 2, 1) := by decide +kernel
theorem dX11_layArticle_167 : decode cX11_layArticle 167 = .ok (.istore 5, 2) := by decide +kernel
theorem dX11_layArticle_169 : decode cX11_layArticle 169 = .ok (.iload 5, 2) := by decide +kernel
theorem dX11_layArticle_171 : decode cX11_layArticle 171 = .ok (.aload_n 0, 1) := by decide +kernel
theorem dX11_layArticle_172 : decode cX11_layArticle 172 = .ok (.iload_n 1, 1) := by decide +kernel
theorem dX11_layArticle_173 : decode cX11_layArticle 173 = .ok (.iconst 1, 1) := by decide +kernel
theorem dX11_layArticle_174 : decode cX11_layArticle 174 = .ok (.invokevirtual 52, 3) := by decide +kernel
theorem dX11_layArticle_177 : decode cX11_layArticle 177 = .ok (.if_icmp .ge 24, 3) := by decide +kernel
theorem dX11_layArticle_180 : decode cX11_layArticle 180 = .ok (.aload_n 0, 1) := by decide +kernel
theorem dX11_layArticle_181 : decode cX11_layArticle 181 = .ok (.getfield 25, 3) := by decide +kernel
theorem dX11_layArticle_184 : decode cX11_layArticle 184 = .ok (.sipush 200, 3) := by decide +kernel
theorem dX11_layArticle_187 : decode cX11_layArticle 187 = .ok (.iload_n 1, 1) := by decide +kernel
theorem dX11_layArticle_188 : decode cX11_layArticle 188 = .ok (.imul, 1) := by decide +kernel
theorem dX11_layArticle_189 : decode cX11_layArticle 189 = .ok (.iload 5, 2) := by decide +kernel
theorem dX11_layArticle_191 : decode cX11_layArticle 191 = .ok (.iadd, 1) := by decide +kernel
theorem dX11_layArticle_192 : decode cX11_layArticle 192 = .ok (.bipush (-99), 2) := by decide +kernel
theorem dX11_layArticle_194 : decode cX11_layArticle 194 = .ok (.iastore, 1) := by decide +kernel
theorem dX11_layArticle_195 : decode cX11_layArticle 195 = .ok (.iinc 5 1, 3) := by decide +kernel
theorem dX11_layArticle_198 : decode cX11_layArticle 198 = .ok (.goto (-29), 3) := by decide +kernel
theorem dX11_layArticle_201 : decode cX11_layArticle 201 = .ok (.return_, 1) := by decide +kernel
theorem dX11_gap_0 : decode cX11_gap 0 = .ok (.iconst 0, 1) := by decide +kernel
theorem dX11_gap_1 : decode cX11_gap 1 = .ok (.iload_n 2, 1) := by decide +kernel
theorem dX11_gap_2 : decode cX11_gap 2 = .ok (.iload_n 0, 1) := by decide +kernel
theorem dX11_gap_3 : decode cX11_gap 3 = .ok (.iload_n 1, 1) := by decide +kernel
theorem dX11_gap_4 : decode cX11_gap 4 = .ok (.iadd, 1) := by decide +kernel
theorem dX11_gap_5 : decode cX11_gap 5 = .ok (.iconst 1, 1) := by decide +kernel
theorem dX11_gap_6 : decode cX11_gap 6 = .ok (.isub, 1) := by decide +kernel
theorem dX11_gap_7 : decode cX11_gap 7 = .ok (.isub, 1) := by decide +kernel
theorem dX11_gap_8 : decode cX11_gap 8 = .ok (.iload_n 0, 1) := by decide +kernel
theorem dX11_gap_9 : decode cX11_gap 9 = .ok (.iload_n 2, 1) := by decide +kernel
theorem dX11_gap_10 : decode cX11_gap 10 = .ok (.iload_n 3, 1) := by decide +kernel
theorem dX11_gap_11 : decode cX11_gap 11 = .ok (.iadd, 1) := by decide +kernel
theorem dX11_gap_12 : decode cX11_gap 12 = .ok (.iconst 1, 1) := by decide +kernel
theorem dX11_gap_13 : decode cX11_gap 13 = .ok (.isub, 1) := by decide +kernel
theorem dX11_gap_14 : decode cX11_gap 14 = .ok (.isub, 1) := by decide +kernel
theorem dX11_gap_15 : decode cX11_gap 15 = .ok (.invokestatic 72, 3) := by decide +kernel
theorem dX11_gap_18 : decode cX11_gap 18 = .ok (.invokestatic 72, 3) := by decide +kernel
theorem dX11_gap_21 : decode cX11_gap 21 = .ok (.ireturn, 1) := by decide +kernel
theorem dX11_moduleOf_0 : decode cX11_moduleOf 0 = .ok (.aload_n 0, 1) := by decide +kernel
theorem dX11_moduleOf_1 : decode cX11_moduleOf 1 = .ok (.iload_n 1, 1) := by decide +kernel
theorem dX11_moduleOf_2 : decode cX11_moduleOf 2 = .ok (.iconst 0, 1) := by decide +kernel
theorem dX11_moduleOf_3 : decode cX11_moduleOf 3 = .ok (.invokevirtual 56, 3) := by decide +kernel
theorem dX11_moduleOf_6 : decode cX11_moduleOf 6 = .ok (.istore_n 2, 1) := by decide +kernel
theorem dX11_moduleOf_7 : decode cX11_moduleOf 7 = .ok (.aload_n 0, 1) := by decide +kernel
theorem dX11_moduleOf_8 : decode cX11_moduleOf 8 = .ok (.getfield 25, 3) := by decide +kernel
theorem dX11_moduleOf_11 : decode cX11_moduleOf 11 = .ok (.sipush 200, 3) := by decide +kernel
theorem dX11_moduleOf_14 : decode cX11_moduleOf 14 = .ok (.iload_n 2, 1) := by decide +kernel
theorem dX11_moduleOf_15 : decode cX11_moduleOf 15 = .ok (.imul, 1) := by decide +kernel
theorem dX11_moduleOf_16 : decode cX11_moduleOf 16 = .ok (.aload_n 0, 1) := by decide +kernel
theorem dX11_moduleOf_17 : decode cX11_moduleOf 17 = .ok (.iload_n 2, 1) := by decide +kernel
theorem dX11_moduleOf_18 : decode cX11_moduleOf 18 = .ok (.iconst 3, 1) := by decide +kernel
theorem dX11_moduleOf_19 : decode cX11_moduleOf 19 = .ok (.aload_n 0, 1) := by decide +kernel
theorem dX11_moduleOf_20 : decode cX11_moduleOf 20 = .ok (.iload_n 1, 1) := by decide +kernel
theorem dX11_moduleOf_21 : decode cX11_moduleOf 21 = .ok (.iconst 1, 1) := by decide +kernel
theorem dX11_moduleOf_22 : decode cX11_moduleOf 22 = .ok (.invokevirtual 56, 3) := by decide +kernel
theorem dX11_moduleOf_25 : decode cX11_moduleOf 25 = .ok (.iadd, 1) := by decide +kernel
theorem dX11_moduleOf_26 : decode cX11_moduleOf 26 = .ok (.invokevirtual 52, 3) := by decide +kernel
theorem dX11_moduleOf_29 : decode cX11_moduleOf 29 = .ok (.iadd, 1) := by decide +kernel
theorem dX11_moduleOf_30 : decode cX11_moduleOf 30 = .ok (.iaload, 1) := by decide +kernel
theorem dX11_moduleOf_31 : decode cX11_moduleOf 31 = .ok (.ireturn, 1) := by decide +kernel
theorem dX11_put_0 : decode cX11_put 0 = .ok (.aload_n 0, 1) := by decide +kernel
theorem dX11_put_1 : decode cX11_put 1 = .ok (.iload_n 1, 1) := by decide +kernel
theorem dX11_put_2 : decode cX11_put 2 = .ok (.iconst 4, 1) := by decide +kernel
theorem dX11_put_3 : decode cX11_put 3 = .ok (.iconst 1, 1) := by decide +kernel
theorem dX11_put_4 : decode cX11_put 4 = .ok (.invokevirtual 95, 3) := by decide +kernel
theorem dX11_put_7 : decode cX11_put 7 = .ok (.aload_n 0, 1) := by decide +kernel
theorem dX11_put_8 : decode cX11_put 8 = .ok (.iload_n 1, 1) := by decide +kernel
theorem dX11_put_9 : decode cX11_put 9 = .ok (.iconst 5, 1) := by decide +kernel
theorem dX11_put_10 : decode cX11_put 10 = .ok (.iload_n 2, 1) := by decide +kernel
theorem dX11_put_11 : decode cX11_put 11 = .ok (.invokevirtual 95, 3) := by decide +kernel
theorem dX11_put_14 : decode cX11_put 14 = .ok (.aload_n 0, 1) := by decide +kernel
theorem dX11_put_15 : decode cX11_put 15 = .ok (.iload_n 1, 1) := by decide +kernel
theorem dX11_put_16 : decode cX11_put 16 = .ok (.bipush 6, 2) := by decide +kernel
theorem dX11_put_18 : decode cX11_put 18 = .ok (.iload_n 3, 1) := by decide +kernel
theorem dX11_put_19 : decode cX11_put 19 = .ok (.invokevirtual 95, 3) := by decide +kernel
theorem dX11_put_22 : decode cX11_put 22 = .ok (.aload_n 0, 1) := by decide +kernel
theorem dX11_put_23 : decode cX11_put 23 = .ok (.iload_n 1, 1) := by decide +kernel
theorem dX11_put_24 : decode cX11_put 24 = .ok (.bipush 7, 2) := by decide +kernel
theorem dX11_put_26 : decode cX11_put 26 = .ok (.iload 4, 2) := by decide +kernel
theorem dX11_put_28 : decode cX11_put 28 = .ok (.invokevirtual 95, 3) := by decide +kernel
theorem dX11_put_31 : decode cX11_put 31 = .ok (.return_, 1) := by decide +kernel
theorem dX11_hasLineOn_0 : decode cX11_hasLineOn 0 = .ok (.iconst 0, 1) := by decide +kernel
theorem dX11_hasLineOn_1 : decode cX11_hasLineOn 1 = .ok (.istore_n 3, 1) := by decide +kernel
theorem dX11_hasLineOn_2 : decode cX11_hasLineOn 2 = .ok (.iconst 0, 1) := by decide +kernel
theorem dX11_hasLineOn_3 : decode cX11_hasLineOn 3 = .ok (.istore 4, 2) := by decide +kernel
theorem dX11_hasLineOn_5 : decode cX11_hasLineOn 5 = .ok (.iload 4, 2) := by decide +kernel
theorem dX11_hasLineOn_7 : decode cX11_hasLineOn 7 = .ok (.aload_n 0, 1) := by decide +kernel
theorem dX11_hasLineOn_8 : decode cX11_hasLineOn 8 = .ok (.iload_n 1, 1) := by decide +kernel
theorem dX11_hasLineOn_9 : decode cX11_hasLineOn 9 = .ok (.iconst 1, 1) := by decide +kernel
theorem dX11_hasLineOn_10 : decode cX11_hasLineOn 10 = .ok (.invokevirtual 52, 3) := by decide +kernel
theorem dX11_hasLineOn_13 : decode cX11_hasLineOn 13 = .ok (.if_icmp .ge 50, 3) := by decide +kernel
theorem dX11_hasLineOn_16 : decode cX11_hasLineOn 16 = .ok (.aload_n 0, 1) := by decide +kernel
theorem dX11_hasLineOn_17 : decode cX11_hasLineOn 17 = .ok (.getfield 25, 3) := by decide +kernel
theorem dX11_hasLineOn_20 : decode cX11_hasLineOn 20 = .ok (.sipush 200, 3) := by decide +kernel
theorem dX11_hasLineOn_23 : decode cX11_hasLineOn 23 = .ok (.iload_n 1, 1) := by decide +kernel
theorem dX11_hasLineOn_24 : decode cX11_hasLineOn 24 = .ok (.imul, 1) := by decide +kernel
theorem dX11_hasLineOn_25 : decode cX11_hasLineOn 25 = .ok (.iload 4, 2) := by decide +kernel
theorem dX11_hasLineOn_27 : decode cX11_hasLineOn 27 = .ok (.iadd, 1) := by decide +kernel
theorem dX11_hasLineOn_28 : decode cX11_hasLineOn 28 = .ok (.iaload, 1) := by decide +kernel
theorem dX11_hasLineOn_29 : decode cX11_hasLineOn 29 = .ok (.istore 5, 2) := by decide +kernel
theorem dX11_hasLineOn_31 : decode cX11_hasLineOn 31 = .ok (.iload_n 3, 1) := by decide +kernel
theorem dX11_hasLineOn_32 : decode cX11_hasLineOn 32 = .ok (.ifCond .ne 19, 3) := by decide +kernel
theorem dX11_hasLineOn_35 : decode cX11_hasLineOn 35 = .ok (.iload 5, 2) := by decide +kernel
theorem dX11_hasLineOn_37 : decode cX11_hasLineOn 37 = .ok (.bipush (-99), 2) := by decide +kernel
theorem dX11_hasLineOn_39 : decode cX11_hasLineOn 39 = .ok (.if_icmp .eq 16, 3) := by decide +kernel
theorem dX11_hasLineOn_42 : decode cX11_hasLineOn 42 = .ok (.iload 5, 2) := by decide +kernel
theorem dX11_hasLineOn_44 : decode cX11_hasLineOn 44 = .ok (.bipush 120, 2) := by decide +kernel
theorem dX11_hasLineOn_46 : decode cX11_hasLineOn 46 = .ok (.idiv, 1) := by decide +kernel
theorem dX11_hasLineOn_47 : decode cX11_hasLineOn 47 = .ok (.iload_n 2, 1) := by decide +kernel
theorem dX11_hasLineOn_48 : decode cX11_hasLineOn 48 = .ok (.if_icmp .ne 7, 3) := by decide +kernel
theorem dX11_hasLineOn_51 : decode cX11_hasLineOn 51 = .ok (.iconst 1, 1) := by decide +kernel
theorem dX11_hasLineOn_52 : decode cX11_hasLineOn 52 = .ok (.goto 4, 3) := by decide +kernel
theorem dX11_hasLineOn_55 : decode cX11_hasLineOn 55 = .ok (.iconst 0, 1) := by decide +kernel
theorem dX11_hasLineOn_56 : decode cX11_hasLineOn 56 = .ok (.istore_n 3, 1) := by decide +kernel
theorem dX11_hasLineOn_57 : decode cX11_hasLineOn 57 = .ok (.iinc 4 1, 3) := by decide +kernel
theorem dX11_hasLineOn_60 : decode cX11_hasLineOn 60 = .ok (.goto (-55), 3) := by decide +kernel
theorem dX11_hasLineOn_63 : decode cX11_hasLineOn 63 = .ok (.iload_n 3, 1) := by decide +kernel
theorem dX11_hasLineOn_64 : decode cX11_hasLineOn 64 = .ok (.ireturn, 1) := by decide +kernel
theorem dX11_addArticle_0 : decode cX11_addArticle 0 = .ok (.aload_n 0, 1) := by decide +kernel
theorem dX11_addArticle_1 : decode cX11_addArticle 1 = .ok (.iconst 0, 1) := by decide +kernel
theorem dX11_addArticle_2 : decode cX11_addArticle 2 = .ok (.putfield 37, 3) := by decide +kernel
theorem dX11_addArticle_5 : decode cX11_addArticle 5 = .ok (.iload_n 1, 1) := by decide +kernel
theorem dX11_addArticle_6 : decode cX11_addArticle 6 = .ok (.iconst 0, 1) := by decide +kernel
theorem dX11_addArticle_7 : decode cX11_addArticle 7 = .ok (.sipush 359, 3) := by decide +kernel
theorem dX11_addArticle_10 : decode cX11_addArticle 10 = .ok (.invokestatic 44, 3) := by decide +kernel
theorem dX11_addArticle_13 : decode cX11_addArticle 13 = .ok (.ifCond .eq 14, 3) := by decide +kernel
theorem dX11_addArticle_16 : decode cX11_addArticle 16 = .ok (.iload_n 2, 1) := by decide +kernel
theorem dX11_addArticle_17 : decode cX11_addArticle 17 = .ok (.iconst 1, 1) := by decide +kernel
theorem dX11_addArticle_18 : decode cX11_addArticle 18 = .ok (.sipush 200, 3) := by decide +kernel
theorem dX11_addArticle_21 : decode cX11_addArticle 21 = .ok (.invokestatic 44, 3) := by decide +kernel
theorem dX11_addArticle_24 : decode cX11_addArticle 24 = .ok (.ifCond .ne 5, 3) := by decide +kernel
theorem dX11_addArticle_27 : decode cX11_addArticle 27 = .ok (.iconst (-1), 1) := by decide +kernel
theorem dX11_addArticle_28 : decode cX11_addArticle 28 = .ok (.ireturn, 1) := by decide +kernel
theorem dX11_addArticle_29 : decode cX11_addArticle 29 = .ok (.aload_n 0, 1) := by decide +kernel
theorem dX11_addArticle_30 : decode cX11_addArticle 30 = .ok (.getfield 7, 3) := by decide +kernel
theorem dX11_addArticle_33 : decode cX11_addArticle 33 = .ok (.iconst 0, 1) := by decide +kernel
theorem dX11_addArticle_34 : decode cX11_addArticle 34 = .ok (.iaload, 1) := by decide +kernel
theorem dX11_addArticle_35 : decode cX11_addArticle 35 = .ok (.bipush 6, 2) := by decide +kernel
theorem dX11_addArticle_37 : decode cX11_addArticle 37 = .ok (.if_icmp .ne 6, 3) := by decide +kernel
theorem dX11_addArticle_40 : decode cX11_addArticle 40 = .ok (.bipush (-3), 2) := by decide +kernel
theorem dX11_addArticle_42 : decode cX11_addArticle 42 = .ok (.ireturn, 1) := by decide +kernel
theorem dX11_addArticle_43 : decode cX11_addArticle 43 = .ok (.aload_n 0, 1) := by decide +kernel
theorem dX11_addArticle_44 : decode cX11_addArticle 44 = .ok (.invokevirtual 154, 3) := by decide +kernel
theorem dX11_addArticle_47 : decode cX11_addArticle 47 = .ok (.aload_n 0, 1) := by decide +kernel
theorem dX11_addArticle_48 : decode cX11_addArticle 48 = .ok (.iload_n 1, 1) := by decide +kernel
theorem dX11_addArticle_49 : decode cX11_addArticle 49 = .ok (.iload_n 2, 1) := by decide +kernel
theorem dX11_addArticle_50 : decode cX11_addArticle 50 = .ok (.invokevirtual 157, 3) := by decide +kernel
theorem dX11_addArticle_53 : decode cX11_addArticle 53 = .ok (.aload_n 0, 1) := by decide +kernel
theorem dX11_addArticle_54 : decode cX11_addArticle 54 = .ok (.getfield 7, 3) := by decide +kernel
theorem dX11_addArticle_57 : decode cX11_addArticle 57 = .ok (.iconst 0, 1) := by decide +kernel
theorem dX11_addArticle_58 : decode cX11_addArticle 58 = .ok (.iaload, 1) := by decide +kernel
theorem dX11_addArticle_59 : decode cX11_addArticle 59 = .ok (.iconst 1, 1) := by decide +kernel
theorem dX11_addArticle_60 : decode cX11_addArticle 60 = .ok (.isub, 1) := by decide +kernel
theorem dX11_addArticle_61 : decode cX11_addArticle 61 = .ok (.ireturn, 1) := by decide +kernel
theorem dX11_lastSentence_0 : decode cX11_lastSentence 0 = .ok (.iconst (-1), 1) := by decide +kernel
theorem dX11_lastSentence_1 : decode cX11_lastSentence 1 = .ok (.istore_n 2, 1) := by decide +kernel
theorem dX11_lastSentence_2 : decode cX11_lastSentence 2 = .ok (.iconst 0, 1) := by decide +kernel
theorem dX11_lastSentence_3 : decode cX11_lastSentence 3 = .ok (.istore_n 3, 1) := by decide +kernel
theorem dX11_lastSentence_4 : decode cX11_lastSentence 4 = .ok (.iload_n 3, 1) := by decide +kernel
theorem dX11_lastSentence_5 : decode cX11_lastSentence 5 = .ok (.aload_n 0, 1) := by decide +kernel
theorem dX11_lastSentence_6 : decode cX11_lastSentence 6 = .ok (.iload_n 1, 1) := by decide +kernel
theorem dX11_lastSentence_7 : decode cX11_lastSentence 7 = .ok (.iconst 2, 1) := by decide +kernel
theorem dX11_lastSentence_8 : decode cX11_lastSentence 8 = .ok (.invokevirtual 52, 3) := by decide +kernel
theorem dX11_lastSentence_11 : decode cX11_lastSentence 11 = .ok (.if_icmp .ge 22, 3) := by decide +kernel
theorem dX11_lastSentence_14 : decode cX11_lastSentence 14 = .ok (.iload_n 2, 1) := by decide +kernel
theorem dX11_lastSentence_15 : decode cX11_lastSentence 15 = .ok (.aload_n 0, 1) := by decide +kernel
theorem dX11_lastSentence_16 : decode cX11_lastSentence 16 = .ok (.iload_n 1, 1) := by decide +kernel
theorem dX11_lastSentence_17 : decode cX11_lastSentence 17 = .ok (.iconst 3, 1) := by decide +kernel
theorem dX11_lastSentence_18 : decode cX11_lastSentence 18 = .ok (.iload_n 3, 1) := by decide +kernel
theorem dX11_lastSentence_19 : decode cX11_lastSentence 19 = .ok (.iadd, 1) := by decide +kernel
theorem dX11_lastSentence_20 : decode cX11_lastSentence 20 = .ok (.invokevirtual 52, 3) := by decide +kernel
theorem dX11_lastSentence_23 : decode cX11_lastSentence 23 = .ok (.invokestatic 72, 3) := by decide +kernel
theorem dX11_lastSentence_26 : decode cX11_lastSentence 26 = .ok (.istore_n 2, 1) := by decide +kernel
theorem dX11_lastSentence_27 : decode cX11_lastSentence 27 = .ok (.iinc 3 1, 3) := by decide +kernel
theorem dX11_lastSentence_30 : decode cX11_lastSentence 30 = .ok (.goto (-26), 3) := by decide +kernel
theorem dX11_lastSentence_33 : decode cX11_lastSentence 33 = .ok (.iload_n 2, 1) := by decide +kernel
theorem dX11_lastSentence_34 : decode cX11_lastSentence 34 = .ok (.ireturn, 1) := by decide +kernel
theorem dX11_putSentence_0 : decode cX11_putSentence 0 = .ok (.aload_n 0, 1) := by decide +kernel
theorem dX11_putSentence_1 : decode cX11_putSentence 1 = .ok (.iload_n 1, 1) := by decide +kernel
theorem dX11_putSentence_2 : decode cX11_putSentence 2 = .ok (.iconst 2, 1) := by decide +kernel
theorem dX11_putSentence_3 : decode cX11_putSentence 3 = .ok (.invokevirtual 52, 3) := by decide +kernel
theorem dX11_putSentence_6 : decode cX11_putSentence 6 = .ok (.istore_n 3, 1) := by decide +kernel
theorem dX11_putSentence_7 : decode cX11_putSentence 7 = .ok (.aload_n 0, 1) := by decide +kernel
theorem dX11_putSentence_8 : decode cX11_putSentence 8 = .ok (.getfield 7, 3) := by decide +kernel
theorem dX11_putSentence_11 : decode cX11_putSentence 11 = .ok (.iconst 5, 1) := by decide +kernel
theorem dX11_putSentence_12 : decode cX11_putSentence 12 = .ok (.bipush 11, 2) := by decide +kernel
theorem dX11_putSentence_14 : decode cX11_putSentence 14 = .ok (.iload_n 1, 1) := by decide +kernel
theorem dX11_putSentence_15 : decode cX11_putSentence 15 = .ok (.imul, 1) := by decide +kernel
theorem dX11_putSentence_16 : decode cX11_putSentence 16 = .ok (.iadd, 1) := by decide +kernel
theorem dX11_putSentence_17 : decode cX11_putSentence 17 = .ok (.iconst 3, 1) := by decide +kernel
theorem dX11_putSentence_18 : decode cX11_putSentence 18 = .ok (.iadd, 1) := by decide +kernel
theorem dX11_putSentence_19 : decode cX11_putSentence 19 = .ok (.iload_n 3, 1) := by decide +kernel
theorem dX11_putSentence_20 : decode cX11_putSentence 20 = .ok (.iadd, 1) := by decide +kernel
theorem dX11_putSentence_21 : decode cX11_putSentence 21 = .ok (.iload_n 2, 1) := by decide +kernel
theorem dX11_putSentence_22 : decode cX11_putSentence 22 = .ok (.iastore, 1) := by decide +kernel
theorem dX11_putSentence_23 : decode cX11_putSentence 23 = .ok (.aload_n 0, 1) := by decide +kernel
theorem dX11_putSentence_24 : decode cX11_putSentence 24 = .ok (.getfield 7, 3) := by decide +kernel
theorem dX11_putSentence_27 : decode cX11_putSentence 27 = .ok (.iconst 5, 1) := by decide +kernel
theorem dX11_putSentence_28 : decode cX11_putSentence 28 = .ok (.bipush 11, 2) := by decide +kernel
theorem dX11_putSentence_30 : decode cX11_putSentence 30 = .ok (.iload_n 1, 1) := by decide +kernel
theorem dX11_putSentence_31 : decode cX11_putSentence 31 = .ok (.imul, 1) := by decide +kernel
theorem dX11_putSentence_32 : decode cX11_putSentence 32 = .ok (.iadd, 1) := by decide +kernel
theorem dX11_putSentence_33 : decode cX11_putSentence 33 = .ok (.iconst 2, 1) := by decide +kernel
theorem dX11_putSentence_34 : decode cX11_putSentence 34 = .ok (.iadd, 1) := by decide +kernel
theorem dX11_putSentence_35 : decode cX11_putSentence 35 = .ok (.dup2, 1) := by decide +kernel
theorem dX11_putSentence_36 : decode cX11_putSentence 36 = .ok (.iaload, 1) := by decide +kernel
theorem dX11_putSentence_37 : decode cX11_putSentence 37 = .ok (.iconst 1, 1) := by decide +kernel
theorem dX11_putSentence_38 : decode cX11_putSentence 38 = .ok (.iadd, 1) := by decide +kernel
theorem dX11_putSentence_39 : decode cX11_putSentence 39 = .ok (.iastore, 1) := by decide +kernel
theorem dX11_putSentence_40 : decode cX11_putSentence 40 = .ok (.iload_n 3, 1) := by decide +kernel
theorem dX11_putSentence_41 : decode cX11_putSentence 41 = .ok (.ireturn, 1) := by decide +kernel
theorem dX11_isPlace_0 : decode cX11_isPlace 0 = .ok (.iload_n 0, 1) := by decide +kernel
theorem dX11_isPlace_1 : decode cX11_isPlace 1 = .ok (.iconst 0, 1) := by decide +kernel
theorem dX11_isPlace_2 : decode cX11_isPlace 2 = .ok (.iconst 2, 1) := by decide +kernel
theorem dX11_isPlace_3 : decode cX11_isPlace 3 = .ok (.invokestatic 44, 3) := by decide +kernel
theorem dX11_isPlace_6 : decode cX11_isPlace 6 = .ok (.ifCond .eq 26, 3) := by decide +kernel
theorem dX11_isPlace_9 : decode cX11_isPlace 9 = .ok (.iload_n 1, 1) := by decide +kernel
theorem dX11_isPlace_10 : decode cX11_isPlace 10 = .ok (.iconst 0, 1) := by decide +kernel
theorem dX11_isPlace_11 : decode cX11_isPlace 11 = .ok (.iconst 5, 1) := by decide +kernel
theorem dX11_isPlace_12 : decode cX11_isPlace 12 = .ok (.invokestatic 44, 3) := by decide +kernel
theorem dX11_isPlace_15 : decode cX11_isPlace 15 = .ok (.ifCond .eq 17, 3) := by decide +kernel
theorem dX11_isPlace_18 : decode cX11_isPlace 18 = .ok (.iload_n 2, 1) := by decide +kernel
theorem dX11_isPlace_19 : decode cX11_isPlace 19 = .ok (.iconst 0, 1) := by decide +kernel
theorem dX11_isPlace_20 : decode cX11_isPlace 20 = .ok (.bipush 19, 2) := by decide +kernel
theorem dX11_isPlace_22 : decode cX11_isPlace 22 = .ok (.invokestatic 44, 3) := by decide +kernel
theorem dX11_isPlace_25 : decode cX11_isPlace 25 = .ok (.ifCond .eq 7, 3) := by decide +kernel
theorem dX11_isPlace_28 : decode cX11_isPlace 28 = .ok (.iconst 1, 1) := by decide +kernel
theorem dX11_isPlace_29 : decode cX11_isPlace 29 = .ok (.goto 4, 3) := by decide +kernel
theorem dX11_isPlace_32 : decode cX11_isPlace 32 = .ok (.iconst 0, 1) := by decide +kernel
theorem dX11_isPlace_33 : decode cX11_isPlace 33 = .ok (.ireturn, 1) := by decide +kernel
theorem dX11_setRule_0 : decode cX11_setRule 0 = .ok (.aload_n 0, 1) := by decide +kernel
theorem dX11_setRule_1 : decode cX11_setRule 1 = .ok (.iconst 0, 1) := by decide +kernel
theorem dX11_setRule_2 : decode cX11_setRule 2 = .ok (.putfield 37, 3) := by decide +kernel
theorem dX11_setRule_5 : decode cX11_setRule 5 = .ok (.iload_n 1, 1) := by decide +kernel
theorem dX11_setRule_6 : decode cX11_setRule 6 = .ok (.ifCond .ne 31, 3) := by decide +kernel
theorem dX11_setRule_9 : decode cX11_setRule 9 = .ok (.iload_n 2, 1) := by decide +kernel
theorem dX11_setRule_10 : decode cX11_setRule 10 = .ok (.iconst 0, 1) := by decide +kernel
theorem dX11_setRule_11 : decode cX11_setRule 11 = .ok (.bipush 10, 2) := by decide +kernel
theorem dX11_setRule_13 : decode cX11_setRule 13 = .ok (.invokestatic 44, 3) := by decide +kernel
theorem dX11_setRule_16 : decode cX11_setRule 16 = .ok (.ifCond .eq 17, 3) := by decide +kernel
theorem dX11_setRule_19 : decode cX11_setRule 19 = .ok (.iload_n 2, 1) := by decide +kernel
theorem dX11_setRule_20 : decode cX11_setRule 20 = .ok (.aload_n 0, 1) := by decide +kernel
theorem dX11_setRule_21 : decode cX11_setRule 21 = .ok (.getfield 7, 3) := by decide +kernel
theorem dX11_setRule_24 : decode cX11_setRule 24 = .ok (.iconst 3, 1) := by decide +kernel
theorem dX11_setRule_25 : decode cX11_setRule 25 = .ok (.iaload, 1) := by decide +kernel
theorem dX11_setRule_26 : decode cX11_setRule 26 = .ok (.if_icmp .gt 7, 3) := by decide +kernel
theorem dX11_setRule_29 : decode cX11_setRule 29 = .ok (.iconst 1, 1) := by decide +kernel
theorem dX11_setRule_30 : decode cX11_setRule 30 = .ok (.goto 60, 3) := by decide +kernel
theorem dX11_setRule_33 : decode cX11_setRule 33 = .ok (.iconst 0, 1) := by decide +kernel
theorem dX11_setRule_34 : decode cX11_setRule 34 = .ok (.goto 56, 3) := by decide +kernel
theorem dX11_setRule_37 : decode cX11_setRule 37 = .ok (.iload_n 1, 1) := by decide +kernel
theorem dX11_setRule_38 : decode cX11_setRule 38 = .ok (.iconst 1, 1) := by decide +kernel
theorem dX11_setRule_39 : decode cX11_setRule 39 = .ok (.if_icmp .ne 31, 3) := by decide +kernel
theorem dX11_setRule_42 : decode cX11_setRule 42 = .ok (.iload_n 2, 1) := by decide +kernel
theorem dX11_setRule_43 : decode cX11_setRule 43 = .ok (.iconst 0, 1) := by decide +kernel
theorem dX11_setRule_44 : decode cX11_setRule 44 = .ok (.bipush 20, 2) := by decide +kernel
theorem dX11_setRule_46 : decode cX11_setRule 46 = .ok (.invokestatic 44, 3) := by decide +kernel
theorem dX11_setRule_49 : decode cX11_setRule 49 = .ok (.ifCond .eq 17, 3) := by decide +kernel
theorem dX11_setRule_52 : decode cX11_setRule 52 = .ok (.iload_n 2, 1) := by decide +kernel
theorem dX11_setRule_53 : decode cX11_setRule 53 = .ok (.aload_n 0, 1) := by decide +kernel
theorem dX11_setRule_54 : decode cX11_setRule 54 = .ok (.getfield 7, 3) := by decide +kernel
theorem dX11_setRule_57 : decode cX11_setRule 57 = .ok (.iconst 2, 1) := by decide +kernel
theorem dX11_setRule_58 : decode cX11_setRule 58 = .ok (.iaload, 1) := by decide +kernel
theorem dX11_setRule_59 : decode cX11_setRule 59 = .ok (.if_icmp .lt 7, 3) := by decide +kernel
theorem dX11_setRule_62 : decode cX11_setRule 62 = .ok (.iconst 1, 1) := by decide +kernel
theorem dX11_setRule_63 : decode cX11_setRule 63 = .ok (.goto 27, 3) := by decide +kernel
theorem dX11_setRule_66 : decode cX11_setRule 66 = .ok (.iconst 0, 1) := by decide +kernel
theorem dX11_setRule_67 : decode cX11_setRule 67 = .ok (.goto 23, 3) := by decide +kernel
theorem dX11_setRule_70 : decode cX11_setRule 70 = .ok (.iload_n 1, 1) := by decide +kernel
theorem dX11_setRule_71 : decode cX11_setRule 71 = .ok (.iconst 2, 1) := by decide +kernel
theorem dX11_setRule_72 : decode cX11_setRule 72 = .ok (.if_icmp .ne 17, 3) := by decide +kernel
theorem dX11_setRule_75 : decode cX11_setRule 75 = .ok (.iload_n 2, 1) := by decide +kernel
theorem dX11_setRule_76 : decode cX11_setRule 76 = .ok (.iconst 1, 1) := by decide +kernel
theorem dX11_setRule_77 : decode cX11_setRule 77 = .ok (.bipush 10, 2) := by decide +kernel
theorem dX11_setRule_79 : decode cX11_setRule 79 = .ok (.invokestatic 44, 3) := by decide +kernel
theorem dX11_setRule_82 : decode cX11_setRule 82 = .ok (.ifCond .eq 7, 3) := by decide +kernel
theorem dX11_setRule_85 : decode cX11_setRule 85 = .ok (.iconst 1, 1) := by decide +kernel
theorem dX11_setRule_86 : decode cX11_setRule 86 = .ok (.goto 4, 3) := by decide +kernel
theorem dX11_setRule_89 : decode cX11_setRule 89 = .ok (.iconst 0, 1) := by decide +kernel
theorem dX11_setRule_90 : decode cX11_setRule 90 = .ok (.istore_n 3, 1) := by decide +kernel
theorem dX11_setRule_91 : decode cX11_setRule 91 = .ok (.iload_n 3, 1) := by decide +kernel
theorem dX11_setRule_92 : decode cX11_setRule 92 = .ok (.ifCond .ne 5, 3) := by decide +kernel
theorem dX11_setRule_95 : decode cX11_setRule 95 = .ok (.iconst (-1), 1) := by decide +kernel
theorem dX11_setRule_96 : decode cX11_setRule 96 = .ok (.ireturn, 1) := by decide +kernel
theorem dX11_setRule_97 : decode cX11_setRule 97 = .ok (.aload_n 0, 1) := by decide +kernel
theorem dX11_setRule_98 : decode cX11_setRule 98 = .ok (.invokevirtual 154, 3) := by decide +kernel
theorem dX11_setRule_101 : decode cX11_setRule 101 = .ok (.aload_n 0, 1) := by decide +kernel
theorem dX11_setRule_102 : decode cX11_setRule 102 = .ok (.getfield 7, 3) := by decide +kernel
theorem dX11_setRule_105 : decode cX11_setRule 105 = .ok (.iconst 2, 1) := by decide +kernel
theorem dX11_setRule_106 : decode cX11_setRule 106 = .ok (.iload_n 1, 1) := by decide +kernel
theorem dX11_setRule_107 : decode cX11_setRule 107 = .ok (.iadd, 1) := by decide +kernel
theorem dX11_setRule_108 : decode cX11_setRule 108 = .ok (.iaload, 1) := by decide +kernel
theorem dX11_setRule_109 : decode cX11_setRule 109 = .ok (.istore 4, 2) := by decide +kernel
theorem dX11_setRule_111 : decode cX11_setRule 111 = .ok (.aload_n 0, 1) := by decide +kernel
theorem dX11_setRule_112 : decode cX11_setRule 112 = .ok (.getfield 7, 3) := by decide +kernel
theorem dX11_setRule_115 : decode cX11_setRule 115 = .ok (.iconst 2, 1) := by decide +kernel
theorem dX11_setRule_116 : decode cX11_setRule 116 = .ok (.iload_n 1, 1) := by decide +kernel
theorem dX11_setRule_117 : decode cX11_setRule 117 = .ok (.iadd, 1) := by decide +kernel
theorem dX11_setRule_118 : decode cX11_setRule 118 = .ok (.iload_n 2, 1) := by decide +kernel
theorem dX11_setRule_119 : decode cX11_setRule 119 = .ok (.iastore, 1) := by decide +kernel
theorem dX11_setRule_120 : decode cX11_setRule 120 = .ok (.iload 4, 2) := by decide +kernel
theorem dX11_setRule_122 : decode cX11_setRule 122 = .ok (.ireturn, 1) := by decide +kernel
theorem dX11_placedMany_0 : decode cX11_placedMany 0 = .ok (.iconst 0, 1) := by decide +kernel
theorem dX11_placedMany_1 : decode cX11_placedMany 1 = .ok (.istore_n 1, 1) := by decide +kernel
theorem dX11_placedMany_2 : decode cX11_placedMany 2 = .ok (.iconst 0, 1) := by decide +kernel
theorem dX11_placedMany_3 : decode cX11_placedMany 3 = .ok (.istore_n 2, 1) := by decide +kernel
theorem dX11_placedMany_4 : decode cX11_placedMany 4 = .ok (.iload_n 2, 1) := by decide +kernel
theorem dX11_placedMany_5 : decode cX11_placedMany 5 = .ok (.aload_n 0, 1) := by decide +kernel
theorem dX11_placedMany_6 : decode cX11_placedMany 6 = .ok (.getfield 7, 3) := by decide +kernel
theorem dX11_placedMany_9 : decode cX11_placedMany 9 = .ok (.iconst 1, 1) := by decide +kernel
theorem dX11_placedMany_10 : decode cX11_placedMany 10 = .ok (.iaload, 1) := by decide +kernel
theorem dX11_placedMany_11 : decode cX11_placedMany 11 = .ok (.if_icmp .ge 18, 3) := by decide +kernel
theorem dX11_placedMany_14 : decode cX11_placedMany 14 = .ok (.iload_n 1, 1) := by decide +kernel
theorem dX11_placedMany_15 : decode cX11_placedMany 15 = .ok (.aload_n 0, 1) := by decide +kernel
theorem dX11_placedMany_16 : decode cX11_placedMany 16 = .ok (.iload_n 2, 1) := by decide +kernel
theorem dX11_placedMany_17 : decode cX11_placedMany 17 = .ok (.iconst 4, 1) := by decide +kernel
theorem dX11_placedMany_18 : decode cX11_placedMany 18 = .ok (.invokevirtual 56, 3) := by decide +kernel
theorem dX11_placedMany_21 : decode cX11_placedMany 21 = .ok (.iadd, 1) := by decide +kernel
theorem dX11_placedMany_22 : decode cX11_placedMany 22 = .ok (.istore_n 1, 1) := by decide +kernel
theorem dX11_placedMany_23 : decode cX11_placedMany 23 = .ok (.iinc 2 1, 3) := by decide +kernel
theorem dX11_placedMany_26 : decode cX11_placedMany 26 = .ok (.goto (-22), 3) := by decide +kernel
theorem dX11_placedMany_29 : decode cX11_placedMany 29 = .ok (.iload_n 1, 1) := by decide +kernel
theorem dX11_placedMany_30 : decode cX11_placedMany 30 = .ok (.ireturn, 1) := by decide +kernel
theorem dX11_append_0 : decode cX11_append 0 = .ok (.aload_n 0, 1) := by decide +kernel
theorem dX11_append_1 : decode cX11_append 1 = .ok (.iconst 0, 1) := by decide +kernel
theorem dX11_append_2 : decode cX11_append 2 = .ok (.putfield 37, 3) := by decide +kernel
theorem dX11_append_5 : decode cX11_append 5 = .ok (.iload_n 1, 1) := by decide +kernel
theorem dX11_append_6 : decode cX11_append 6 = .ok (.iconst 1, 1) := by decide +kernel
theorem dX11_append_7 : decode cX11_append 7 = .ok (.sipush 255, 3) := by decide +kernel
theorem dX11_append_10 : decode cX11_append 10 = .ok (.invokestatic 44, 3) := by decide +kernel
theorem dX11_append_13 : decode cX11_append 13 = .ok (.ifCond .ne 5, 3) := by decide +kernel
theorem dX11_append_16 : decode cX11_append 16 = .ok (.iconst (-1), 1) := by decide +kernel
theorem dX11_append_17 : decode cX11_append 17 = .ok (.ireturn, 1) := by decide +kernel
theorem dX11_append_18 : decode cX11_append 18 = .ok (.aload_n 0, 1) := by decide +kernel
theorem dX11_append_19 : decode cX11_append 19 = .ok (.getfield 191, 3) := by decide +kernel
theorem dX11_append_22 : decode cX11_append 22 = .ok (.sipush 140, 3) := by decide +kernel
theorem dX11_append_25 : decode cX11_append 25 = .ok (.if_icmp .ne 6, 3) := by decide +kernel
theorem dX11_append_28 : decode cX11_append 28 = .ok (.bipush (-3), 2) := by decide +kernel
theorem dX11_append_30 : decode cX11_append 30 = .ok (.ireturn, 1) := by decide +kernel
theorem dX11_append_31 : decode cX11_append 31 = .ok (.aload_n 0, 1) := by decide +kernel
theorem dX11_append_32 : decode cX11_append 32 = .ok (.getfield 19, 3) := by decide +kernel
theorem dX11_append_35 : decode cX11_append 35 = .ok (.aload_n 0, 1) := by decide +kernel
theorem dX11_append_36 : decode cX11_append 36 = .ok (.getfield 191, 3) := by decide +kernel
theorem dX11_append_39 : decode cX11_append 39 = .ok (.iload_n 1, 1) := by decide +kernel
theorem dX11_append_40 : decode cX11_append 40 = .ok (.iastore, 1) := by decide +kernel
theorem dX11_append_41 : decode cX11_append 41 = .ok (.aload_n 0, 1) := by decide +kernel
theorem dX11_append_42 : decode cX11_append 42 = .ok (.dup, 1) := by decide +kernel
theorem dX11_append_43 : decode cX11_append 43 = .ok (.getfield 191, 3) := by decide +kernel
theorem dX11_append_46 : decode cX11_append 46 = .ok (.iconst 1, 1) := by decide +kernel
theorem dX11_append_47 : decode cX11_append 47 = .ok (.iadd, 1) := by decide +kernel
theorem dX11_append_48 : decode cX11_append 48 = .ok (.putfield 191, 3) := by decide +kernel
theorem dX11_append_51 : decode cX11_append 51 = .ok (.aload_n 0, 1) := by decide +kernel
theorem dX11_append_52 : decode cX11_append 52 = .ok (.getfield 191, 3) := by decide +kernel
theorem dX11_append_55 : decode cX11_append 55 = .ok (.ireturn, 1) := by decide +kernel
theorem dX11_reads_0 : decode cX11_reads 0 = .ok (.aload_n 0, 1) := by decide +kernel
theorem dX11_reads_1 : decode cX11_reads 1 = .ok (.invokevirtual 197, 3) := by decide +kernel
theorem dX11_reads_4 : decode cX11_reads 4 = .ok (.istore_n 3, 1) := by decide +kernel
theorem dX11_reads_5 : decode cX11_reads 5 = .ok (.aload_n 0, 1) := by decide +kernel
theorem dX11_reads_6 : decode cX11_reads 6 = .ok (.getfield 194, 3) := by decide +kernel
theorem dX11_reads_9 : decode cX11_reads 9 = .ok (.istore 4, 2) := by decide +kernel
theorem dX11_reads_11 : decode cX11_reads 11 = .ok (.iconst 0, 1) := by decide +kernel
theorem dX11_reads_12 : decode cX11_reads 12 = .ok (.istore 5, 2) := by decide +kernel
theorem dX11_reads_14 : decode cX11_reads 14 = .ok (.aload_n 0, 1) := by decide +kernel
theorem dX11_reads_15 : decode cX11_reads 15 = .ok (.getfield 194, 3) := by decide +kernel
theorem dX11_reads_18 : decode cX11_reads 18 = .ok (.aload_n 0, 1) := by decide +kernel
theorem dX11_reads_19 : decode cX11_reads 19 = .ok (.getfield 191, 3) := by decide +kernel
theorem dX11_reads_22 : decode cX11_reads 22 = .ok (.if_icmp .ge 67, 3) := by decide +kernel
theorem dX11_reads_25 : decode cX11_reads 25 = .ok (.aload_n 0, 1) := by decide +kernel
theorem dX11_reads_26 : decode cX11_reads 26 = .ok (.getfield 19, 3) := by decide +kernel
theorem dX11_reads_29 : decode cX11_reads 29 = .ok (.aload_n 0, 1) := by decide +kernel
theorem dX11_reads_30 : decode cX11_reads 30 = .ok (.getfield 194, 3) := by decide +kernel
theorem dX11_reads_33 : decode cX11_reads 33 = .ok (.iaload, 1) := by decide +kernel
theorem dX11_reads_34 : decode cX11_reads 34 = .ok (.bipush 48, 2) := by decide +kernel
theorem dX11_reads_36 : decode cX11_reads 36 = .ok (.bipush 57, 2) := by decide +kernel
theorem dX11_reads_38 : decode cX11_reads 38 = .ok (.invokestatic 44, 3) := by decide +kernel
theorem dX11_reads_41 : decode cX11_reads 41 = .ok (.ifCond .eq 48, 3) := by decide +kernel
theorem dX11_reads_44 : decode cX11_reads 44 = .ok (.iload 5, 2) := by decide +kernel
theorem dX11_reads_46 : decode cX11_reads 46 = .ok (.ldc 200, 2) := by decide +kernel
theorem dX11_reads_48 : decode cX11_reads 48 = .ok (.if_icmp .ge 24, 3) := by decide +kernel
theorem dX11_reads_51 : decode cX11_reads 51 = .ok (.bipush 10, 2) := by decide +kernel
theorem dX11_reads_53 : decode cX11_reads 53 = .ok (.iload 5, 2) := by decide +kernel
theorem dX11_reads_55 : decode cX11_reads 55 = .ok (.imul, 1) := by decide +kernel
theorem dX11_reads_56 : decode cX11_reads 56 = .ok (.aload_n 0, 1) := by decide +kernel
theorem dX11_reads_57 : decode cX11_reads 57 = .ok (.getfield 19, 3) := by decide +kernel
theorem dX11_reads_60 : decode cX11_reads 60 = .ok (.aload_n 0, 1) := by decide +kernel
theorem dX11_reads_61 : decode cX11_reads 61 = .ok (.getfield 194, 3) := by decide +kernel
theorem dX11_reads_64 : decode cX11_reads 64 = .ok (.iaload, 1) := by decide +kernel
theorem dX11_reads_65 : decode cX11_reads 65 = .ok (.iadd, 1) := by decide +kernel
theorem dX11_reads_66 : decode cX11_reads 66 = .ok (.bipush 48, 2) := by decide +kernel
theorem dX11_reads_68 : decode cX11_reads 68 = .ok (.isub, 1) := by decide +kernel
theorem dX11_reads_69 : decode cX11_reads 69 = .ok (.goto 5, 3) := by decide +kernel
theorem dX11_reads_72 : decode cX11_reads 72 = .ok (.iload 5, 2) := by decide +kernel
theorem dX11_reads_74 : decode cX11_reads 74 = .ok (.istore 5, 2) := by decide +kernel
theorem dX11_reads_76 : decode cX11_reads 76 = .ok (.aload_n 0, 1) := by decide +kernel
theorem dX11_reads_77 : decode cX11_reads 77 = .ok (.dup, 1) := by decide +kernel
theorem dX11_reads_78 : decode cX11_reads 78 = .ok (.getfield 194, 3) := by decide +kernel
theorem dX11_reads_81 : decode cX11_reads 81 = .ok (.iconst 1, 1) := by decide +kernel
theorem dX11_reads_82 : decode cX11_reads 82 = .ok (.iadd, 1) := by decide +kernel
theorem dX11_reads_83 : decode cX11_reads 83 = .ok (.putfield 194, 3) := by decide +kernel
theorem dX11_reads_86 : decode cX11_reads 86 = .ok (.goto (-72), 3) := by decide +kernel
theorem dX11_reads_89 : decode cX11_reads 89 = .ok (.aload_n 0, 1) := by decide +kernel
theorem dX11_reads_90 : decode cX11_reads 90 = .ok (.getfield 194, 3) := by decide +kernel
theorem dX11_reads_93 : decode cX11_reads 93 = .ok (.iload 4, 2) := by decide +kernel
theorem dX11_reads_95 : decode cX11_reads 95 = .ok (.if_icmp .le 34, 3) := by decide +kernel
theorem dX11_reads_98 : decode cX11_reads 98 = .ok (.iload_n 3, 1) := by decide +kernel
theorem dX11_reads_99 : decode cX11_reads 99 = .ok (.bipush 48, 2) := by decide +kernel
theorem dX11_reads_101 : decode cX11_reads 101 = .ok (.if_icmp .ne 14, 3) := by decide +kernel
theorem dX11_reads_104 : decode cX11_reads 104 = .ok (.aload_n 0, 1) := by decide +kernel
theorem dX11_reads_105 : decode cX11_reads 105 = .ok (.getfield 194, 3) := by decide +kernel
theorem dX11_reads_108 : decode cX11_reads 108 = .ok (.iload 4, 2) := by decide +kernel
theorem dX11_reads_110 : decode cX11_reads 110 = .ok (.iconst 1, 1) := by decide +kernel
theorem dX11_reads_111 : decode cX11_reads 111 = .ok (.iadd, 1) := by decide +kernel
theorem dX11_reads_112 : decode cX11_reads 112 = .ok (.if_icmp .ne 17, 3) := by decide +kernel
theorem dX11_reads_115 : decode cX11_reads 115 = .ok (.iload 5, 2) := by decide +kernel
theorem dX11_reads_117 : decode cX11_reads 117 = .ok (.iload_n 1, 1) := by decide +kernel
theorem dX11_reads_118 : decode cX11_reads 118 = .ok (.iload_n 2, 1) := by decide +kernel
theorem dX11_reads_119 : decode cX11_reads 119 = .ok (.invokestatic 44, 3) := by decide +kernel
theorem dX11_reads_122 : decode cX11_reads 122 = .ok (.ifCond .eq 7, 3) := by decide +kernel
theorem dX11_reads_125 : decode cX11_reads 125 = .ok (.iconst 1, 1) := by decide +kernel
theorem dX11_reads_126 : decode cX11_reads 126 = .ok (.goto 4, 3) := by decide +kernel
theorem dX11_reads_129 : decode cX11_reads 129 = .ok (.iconst 0, 1) := by decide +kernel
theorem dX11_reads_130 : decode cX11_reads 130 = .ok (.istore 6, 2) := by decide +kernel
theorem dX11_reads_132 : decode cX11_reads 132 = .ok (.aload_n 0, 1) := by decide +kernel
theorem dX11_reads_133 : decode cX11_reads 133 = .ok (.iload 6, 2) := by decide +kernel
theorem dX11_reads_135 : decode cX11_reads 135 = .ok (.ifCond .eq 10, 3) := by decide +kernel
theorem dX11_reads_138 : decode cX11_reads 138 = .ok (.aload_n 0, 1) := by decide +kernel
theorem dX11_reads_139 : decode cX11_reads 139 = .ok (.getfield 194, 3) := by decide +kernel
theorem dX11_reads_142 : decode cX11_reads 142 = .ok (.goto 5, 3) := by decide +kernel
theorem dX11_reads_145 : decode cX11_reads 145 = .ok (.iload 4, 2) := by decide +kernel
theorem dX11_reads_147 : decode cX11_reads 147 = .ok (.putfield 194, 3) := by decide +kernel
theorem dX11_reads_150 : decode cX11_reads 150 = .ok (.aload_n 0, 1) := by decide +kernel
theorem dX11_reads_151 : decode cX11_reads 151 = .ok (.iload 5, 2) := by decide +kernel
theorem dX11_reads_153 : decode cX11_reads 153 = .ok (.putfield 201, 3) := by decide +kernel
theorem dX11_reads_156 : decode cX11_reads 156 = .ok (.iload 6, 2) := by decide +kernel
theorem dX11_reads_158 : decode cX11_reads 158 = .ok (.ireturn, 1) := by decide +kernel
theorem dX11_takes_0 : decode cX11_takes 0 = .ok (.aload_n 0, 1) := by decide +kernel
theorem dX11_takes_1 : decode cX11_takes 1 = .ok (.invokevirtual 197, 3) := by decide +kernel
theorem dX11_takes_4 : decode cX11_takes 4 = .ok (.iload_n 1, 1) := by decide +kernel
theorem dX11_takes_5 : decode cX11_takes 5 = .ok (.if_icmp .ne 7, 3) := by decide +kernel
theorem dX11_takes_8 : decode cX11_takes 8 = .ok (.iconst 1, 1) := by decide +kernel
theorem dX11_takes_9 : decode cX11_takes 9 = .ok (.goto 4, 3) := by decide +kernel
theorem dX11_takes_12 : decode cX11_takes 12 = .ok (.iconst 0, 1) := by decide +kernel
theorem dX11_takes_13 : decode cX11_takes 13 = .ok (.istore_n 2, 1) := by decide +kernel
theorem dX11_takes_14 : decode cX11_takes 14 = .ok (.aload_n 0, 1) := by decide +kernel
theorem dX11_takes_15 : decode cX11_takes 15 = .ok (.dup, 1) := by decide +kernel
theorem dX11_takes_16 : decode cX11_takes 16 = .ok (.getfield 194, 3) := by decide +kernel
theorem dX11_takes_19 : decode cX11_takes 19 = .ok (.iload_n 2, 1) := by decide +kernel
theorem dX11_takes_20 : decode cX11_takes 20 = .ok (.ifCond .eq 7, 3) := by decide +kernel
theorem dX11_takes_23 : decode cX11_takes 23 = .ok (.iconst 1, 1) := by decide +kernel
theorem dX11_takes_24 : decode cX11_takes 24 = .ok (.goto 4, 3) := by decide +kernel
theorem dX11_takes_27 : decode cX11_takes 27 = .ok (.iconst 0, 1) := by decide +kernel
theorem dX11_takes_28 : decode cX11_takes 28 = .ok (.iadd, 1) := by decide +kernel
theorem dX11_takes_29 : decode cX11_takes 29 = .ok (.putfield 194, 3) := by decide +kernel
theorem dX11_takes_32 : decode cX11_takes 32 = .ok (.iload_n 2, 1) := by decide +kernel
theorem dX11_takes_33 : decode cX11_takes 33 = .ok (.ireturn, 1) := by decide +kernel
theorem dX11_takenMany_0 : decode cX11_takenMany 0 = .ok (.iconst 0, 1) := by decide +kernel
theorem dX11_takenMany_1 : decode cX11_takenMany 1 = .ok (.istore 5, 2) := by decide +kernel
theorem dX11_takenMany_3 : decode cX11_takenMany 3 = .ok (.iload_n 1, 1) := by decide +kernel
theorem dX11_takenMany_4 : decode cX11_takenMany 4 = .ok (.istore 6, 2) := by decide +kernel
theorem dX11_takenMany_6 : decode cX11_takenMany 6 = .ok (.iload 6, 2) := by decide +kernel
theorem dX11_takenMany_8 : decode cX11_takenMany 8 = .ok (.iload_n 2, 1) := by decide +kernel
theorem dX11_takenMany_9 : decode cX11_takenMany 9 = .ok (.if_icmp .ge 35, 3) := by decide +kernel
theorem dX11_takenMany_12 : decode cX11_takenMany 12 = .ok (.iload 5, 2) := by decide +kernel
theorem dX11_takenMany_14 : decode cX11_takenMany 14 = .ok (.aload_n 0, 1) := by decide +kernel
theorem dX11_takenMany_15 : decode cX11_takenMany 15 = .ok (.getfield 22, 3) := by decide +kernel
theorem dX11_takenMany_18 : decode cX11_takenMany 18 = .ok (.iload 6, 2) := by decide +kernel
theorem dX11_takenMany_20 : decode cX11_takenMany 20 = .ok (.iaload, 1) := by decide +kernel
theorem dX11_takenMany_21 : decode cX11_takenMany 21 = .ok (.iload_n 3, 1) := by decide +kernel
theorem dX11_takenMany_22 : decode cX11_takenMany 22 = .ok (.iload 4, 2) := by decide +kernel
theorem dX11_takenMany_24 : decode cX11_takenMany 24 = .ok (.invokestatic 44, 3) := by decide +kernel
theorem dX11_takenMany_27 : decode cX11_takenMany 27 = .ok (.ifCond .eq 7, 3) := by decide +kernel
theorem dX11_takenMany_30 : decode cX11_takenMany 30 = .ok (.iconst 1, 1) := by decide +kernel
theorem dX11_takenMany_31 : decode cX11_takenMany 31 = .ok (.goto 4, 3) := by decide +kernel
theorem dX11_takenMany_34 : decode cX11_takenMany 34 = .ok (.iconst 0, 1) := by decide +kernel
theorem dX11_takenMany_35 : decode cX11_takenMany 35 = .ok (.iadd, 1) := by decide +kernel
theorem dX11_takenMany_36 : decode cX11_takenMany 36 = .ok (.istore 5, 2) := by decide +kernel
theorem dX11_takenMany_38 : decode cX11_takenMany 38 = .ok (.iinc 6 1, 3) := by decide +kernel
theorem dX11_takenMany_41 : decode cX11_takenMany 41 = .ok (.goto (-35), 3) := by decide +kernel
theorem dX11_takenMany_44 : decode cX11_takenMany 44 = .ok (.iload 5, 2) := by decide +kernel
theorem dX11_takenMany_46 : decode cX11_takenMany 46 = .ok (.ireturn, 1) := by decide +kernel
theorem dX1_hasLine_0 : decode cX1_hasLine 0 = .ok (.aload_n 0, 1) := by decide +kernel
theorem dX1_hasLine_1 : decode cX1_hasLine 1 = .ok (.iload_n 1, 1) := by decide +kernel
theorem dX1_hasLine_2 : decode cX1_hasLine 2 = .ok (.invokevirtual 53, 3) := by decide +kernel
theorem dX1_hasLine_5 : decode cX1_hasLine 5 = .ok (.ifCond .eq 26, 3) := by decide +kernel
theorem dX1_hasLine_8 : decode cX1_hasLine 8 = .ok (.iload_n 2, 1) := by decide +kernel
theorem dX1_hasLine_9 : decode cX1_hasLine 9 = .ok (.iconst 0, 1) := by decide +kernel
theorem dX1_hasLine_10 : decode cX1_hasLine 10 = .ok (.aload_n 0, 1) := by decide +kernel
theorem dX1_hasLine_11 : decode cX1_hasLine 11 = .ok (.getfield 11, 3) := by decide +kernel
theorem dX1_hasLine_14 : decode cX1_hasLine 14 = .ok (.iload_n 1, 1) := by decide +kernel
theorem dX1_hasLine_15 : decode cX1_hasLine 15 = .ok (.aaload, 1) := by decide +kernel
theorem dX1_hasLine_16 : decode cX1_hasLine 16 = .ok (.getfield 57, 3) := by decide +kernel
theorem dX1_hasLine_19 : decode cX1_hasLine 19 = .ok (.iconst 1, 1) := by decide +kernel
theorem dX1_hasLine_20 : decode cX1_hasLine 20 = .ok (.isub, 1) := by decide +kernel
theorem dX1_hasLine_21 : decode cX1_hasLine 21 = .ok (.invokestatic 49, 3) := by decide +kernel
theorem dX1_hasLine_24 : decode cX1_hasLine 24 = .ok (.ifCond .eq 7, 3) := by decide +kernel
theorem dX1_hasLine_27 : decode cX1_hasLine 27 = .ok (.iconst 1, 1) := by decide +kernel
theorem dX1_hasLine_28 : decode cX1_hasLine 28 = .ok (.goto 4, 3) := by decide +kernel
theorem dX1_hasLine_31 : decode cX1_hasLine 31 = .ok (.iconst 0, 1) := by decide +kernel
theorem dX1_hasLine_32 : decode cX1_hasLine 32 = .ok (.ireturn, 1) := by decide +kernel
theorem dX1_hasSentence_0 : decode cX1_hasSentence 0 = .ok (.aload_n 0, 1) := by decide +kernel
theorem dX1_hasSentence_1 : decode cX1_hasSentence 1 = .ok (.iload_n 1, 1) := by decide +kernel
theorem dX1_hasSentence_2 : decode cX1_hasSentence 2 = .ok (.invokevirtual 53, 3) := by decide +kernel
theorem dX1_hasSentence_5 : decode cX1_hasSentence 5 = .ok (.ifCond .eq 26, 3) := by decide +kernel
theorem dX1_hasSentence_8 : decode cX1_hasSentence 8 = .ok (.iload_n 2, 1) := by decide +kernel
theorem dX1_hasSentence_9 : decode cX1_hasSentence 9 = .ok (.iconst 0, 1) := by decide +kernel
theorem dX1_hasSentence_10 : decode cX1_hasSentence 10 = .ok (.aload_n 0, 1) := by decide +kernel
theorem dX1_hasSentence_11 : decode cX1_hasSentence 11 = .ok (.getfield 11, 3) := by decide +kernel
theorem dX1_hasSentence_14 : decode cX1_hasSentence 14 = .ok (.iload_n 1, 1) := by decide +kernel
theorem dX1_hasSentence_15 : decode cX1_hasSentence 15 = .ok (.aaload, 1) := by decide +kernel
theorem dX1_hasSentence_16 : decode cX1_hasSentence 16 = .ok (.getfield 60, 3) := by decide +kernel
theorem dX1_hasSentence_19 : decode cX1_hasSentence 19 = .ok (.iconst 1, 1) := by decide +kernel
theorem dX1_hasSentence_20 : decode cX1_hasSentence 20 = .ok (.isub, 1) := by decide +kernel
theorem dX1_hasSentence_21 : decode cX1_hasSentence 21 = .ok (.invokestatic 49, 3) := by decide +kernel
theorem dX1_hasSentence_24 : decode cX1_hasSentence 24 = .ok (.ifCond .eq 7, 3) := by decide +kernel
theorem dX1_hasSentence_27 : decode cX1_hasSentence 27 = .ok (.iconst 1, 1) := by decide +kernel
theorem dX1_hasSentence_28 : decode cX1_hasSentence 28 = .ok (.goto 4, 3) := by decide +kernel
theorem dX1_hasSentence_31 : decode cX1_hasSentence 31 = .ok (.iconst 0, 1) := by decide +kernel
theorem dX1_hasSentence_32 : decode cX1_hasSentence 32 = .ok (.ireturn, 1) := by decide +kernel
theorem dX1_dropQuote_0 : decode cX1_dropQuote 0 = .ok (.aload_n 0, 1) := by decide +kernel
theorem dX1_dropQuote_1 : decode cX1_dropQuote 1 = .ok (.iload_n 1, 1) := by decide +kernel
theorem dX1_dropQuote_2 : decode cX1_dropQuote 2 = .ok (.invokevirtual 86, 3) := by decide +kernel
theorem dX1_dropQuote_5 : decode cX1_dropQuote 5 = .ok (.ifCond .ne 4, 3) := by decide +kernel
theorem dX1_dropQuote_8 : decode cX1_dropQuote 8 = .ok (.return_, 1) := by decide +kernel
theorem dX1_dropQuote_9 : decode cX1_dropQuote 9 = .ok (.aload_n 0, 1) := by decide +kernel
theorem dX1_dropQuote_10 : decode cX1_dropQuote 10 = .ok (.dup, 1) := by decide +kernel
theorem dX1_dropQuote_11 : decode cX1_dropQuote 11 = .ok (.getfield 37, 3) := by decide +kernel
theorem dX1_dropQuote_14 : decode cX1_dropQuote 14 = .ok (.iconst 1, 1) := by decide +kernel
theorem dX1_dropQuote_15 : decode cX1_dropQuote 15 = .ok (.isub, 1) := by decide +kernel
theorem dX1_dropQuote_16 : decode cX1_dropQuote 16 = .ok (.putfield 37, 3) := by decide +kernel
theorem dX1_dropQuote_19 : decode cX1_dropQuote 19 = .ok (.iload_n 1, 1) := by decide +kernel
theorem dX1_dropQuote_20 : decode cX1_dropQuote 20 = .ok (.istore_n 2, 1) := by decide +kernel
theorem dX1_dropQuote_21 : decode cX1_dropQuote 21 = .ok (.iload_n 2, 1) := by decide +kernel
theorem dX1_dropQuote_22 : decode cX1_dropQuote 22 = .ok (.aload_n 0, 1) := by decide +kernel
theorem dX1_dropQuote_23 : decode cX1_dropQuote 23 = .ok (.getfield 37, 3) := by decide +kernel
theorem dX1_dropQuote_26 : decode cX1_dropQuote 26 = .ok (.if_icmp .ge 26, 3) := by decide +kernel
theorem dX1_dropQuote_29 : decode cX1_dropQuote 29 = .ok (.aload_n 0, 1) := by decide +kernel
theorem dX1_dropQuote_30 : decode cX1_dropQuote 30 = .ok (.getfield 19, 3) := by decide +kernel
theorem dX1_dropQuote_33 : decode cX1_dropQuote 33 = .ok (.iload_n 2, 1) := by decide +kernel
theorem dX1_dropQuote_34 : decode cX1_dropQuote 34 = .ok (.aaload, 1) := by decide +kernel
theorem dX1_dropQuote_35 : decode cX1_dropQuote 35 = .ok (.aload_n 0, 1) := by decide +kernel
theorem dX1_dropQuote_36 : decode cX1_dropQuote 36 = .ok (.getfield 19, 3) := by decide +kernel
theorem dX1_dropQuote_39 : decode cX1_dropQuote 39 = .ok (.iload_n 2, 1) := by decide +kernel
theorem dX1_dropQuote_40 : decode cX1_dropQuote 40 = .ok (.iconst 1, 1) := by decide +kernel
theorem dX1_dropQuote_41 : decode cX1_dropQuote 41 = .ok (.iadd, 1) := by decide +kernel
theorem dX1_dropQuote_42 : decode cX1_dropQuote 42 = .ok (.aaload, 1) := by decide +kernel
theorem dX1_dropQuote_43 : decode cX1_dropQuote 43 = .ok (.invokevirtual 40, 3) := by decide +kernel
theorem dX1_dropQuote_46 : decode cX1_dropQuote 46 = .ok (.iinc 2 1, 3) := by decide +kernel
theorem dX1_dropQuote_49 : decode cX1_dropQuote 49 = .ok (.goto (-28), 3) := by decide +kernel
theorem dX1_dropQuote_52 : decode cX1_dropQuote 52 = .ok (.return_, 1) := by decide +kernel
theorem dX1_balanceOf_0 : decode cX1_balanceOf 0 = .ok (.iconst 0, 1) := by decide +kernel
theorem dX1_balanceOf_1 : decode cX1_balanceOf 1 = .ok (.istore_n 2, 1) := by decide +kernel
theorem dX1_balanceOf_2 : decode cX1_balanceOf 2 = .ok (.iconst 0, 1) := by decide +kernel
theorem dX1_balanceOf_3 : decode cX1_balanceOf 3 = .ok (.istore_n 3, 1) := by decide +kernel
theorem dX1_balanceOf_4 : decode cX1_balanceOf 4 = .ok (.iload_n 3, 1) := by decide +kernel
theorem dX1_balanceOf_5 : decode cX1_balanceOf 5 = .ok (.aload_n 0, 1) := by decide +kernel
theorem dX1_balanceOf_6 : decode cX1_balanceOf 6 = .ok (.getfield 37, 3) := by decide +kernel
theorem dX1_balanceOf_9 : decode cX1_balanceOf 9 = .ok (.if_icmp .ge 46, 3) := by decide +kernel
theorem dX1_balanceOf_12 : decode cX1_balanceOf 12 = .ok (.aload_n 0, 1) := by decide +kernel
theorem dX1_balanceOf_13 : decode cX1_balanceOf 13 = .ok (.getfield 19, 3) := by decide +kernel
theorem dX1_balanceOf_16 : decode cX1_balanceOf 16 = .ok (.iload_n 3, 1) := by decide +kernel
theorem dX1_balanceOf_17 : decode cX1_balanceOf 17 = .ok (.aaload, 1) := by decide +kernel
theorem dX1_balanceOf_18 : decode cX1_balanceOf 18 = .ok (.getfield 78, 3) := by decide +kernel
theorem dX1_balanceOf_21 : decode cX1_balanceOf 21 = .ok (.ifCond .eq 28, 3) := by decide +kernel
theorem dX1_balanceOf_24 : decode cX1_balanceOf 24 = .ok (.aload_n 0, 1) := by decide +kernel
theorem dX1_balanceOf_25 : decode cX1_balanceOf 25 = .ok (.getfield 19, 3) := by decide +kernel
theorem dX1_balanceOf_28 : decode cX1_balanceOf 28 = .ok (.iload_n 3, 1) := by decide +kernel
theorem dX1_balanceOf_29 : decode cX1_balanceOf 29 = .ok (.aaload, 1) := by decide +kernel
theorem dX1_balanceOf_30 : decode cX1_balanceOf 30 = .ok (.getfield 89, 3) := by decide +kernel
theorem dX1_balanceOf_33 : decode cX1_balanceOf 33 = .ok (.iload_n 1, 1) := by decide +kernel
theorem dX1_balanceOf_34 : decode cX1_balanceOf 34 = .ok (.if_icmp .ne 15, 3) := by decide +kernel
theorem dX1_balanceOf_37 : decode cX1_balanceOf 37 = .ok (.iload_n 2, 1) := by decide +kernel
theorem dX1_balanceOf_38 : decode cX1_balanceOf 38 = .ok (.aload_n 0, 1) := by decide +kernel
theorem dX1_balanceOf_39 : decode cX1_balanceOf 39 = .ok (.getfield 19, 3) := by decide +kernel
theorem dX1_balanceOf_42 : decode cX1_balanceOf 42 = .ok (.iload_n 3, 1) := by decide +kernel
theorem dX1_balanceOf_43 : decode cX1_balanceOf 43 = .ok (.aaload, 1) := by decide +kernel
theorem dX1_balanceOf_44 : decode cX1_balanceOf 44 = .ok (.invokevirtual 92, 3) := by decide +kernel
theorem dX1_balanceOf_47 : decode cX1_balanceOf 47 = .ok (.iadd, 1) := by decide +kernel
theorem dX1_balanceOf_48 : decode cX1_balanceOf 48 = .ok (.istore_n 2, 1) := by decide +kernel
theorem dX1_balanceOf_49 : decode cX1_balanceOf 49 = .ok (.iinc 3 1, 3) := by decide +kernel
theorem dX1_balanceOf_52 : decode cX1_balanceOf 52 = .ok (.goto (-48), 3) := by decide +kernel
theorem dX1_balanceOf_55 : decode cX1_balanceOf 55 = .ok (.iload_n 2, 1) := by decide +kernel
theorem dX1_balanceOf_56 : decode cX1_balanceOf 56 = .ok (.invokestatic 96, 3) := by decide +kernel
theorem dX1_balanceOf_59 : decode cX1_balanceOf 59 = .ok (.ireturn, 1) := by decide +kernel
theorem dX4_arrange_0 : decode cX4_arrange 0 = .ok (.aload_n 0, 1) := by decide +kernel
theorem dX4_arrange_1 : decode cX4_arrange 1 = .ok (.getfield 9, 3) := by decide +kernel
theorem dX4_arrange_4 : decode cX4_arrange 4 = .ok (.iconst 0, 1) := by decide +kernel
theorem dX4_arrange_5 : decode cX4_arrange 5 = .ok (.invokestatic 22, 3) := by decide +kernel
theorem dX4_arrange_8 : decode cX4_arrange 8 = .ok (.iconst 0, 1) := by decide +kernel
theorem dX4_arrange_9 : decode cX4_arrange 9 = .ok (.istore_n 2, 1) := by decide +kernel
theorem dX4_arrange_10 : decode cX4_arrange 10 = .ok (.iload_n 2, 1) := by decide +kernel
theorem dX4_arrange_11 : decode cX4_arrange 11 = .ok (.aload_n 1, 1) := by decide +kernel
theorem dX4_arrange_12 : decode cX4_arrange 12 = .ok (.getfield 28, 3) := by decide +kernel
theorem dX4_arrange_15 : decode cX4_arrange 15 = .ok (.if_icmp .ge 35, 3) := by decide +kernel
theorem dX4_arrange_18 : decode cX4_arrange 18 = .ok (.aload_n 1, 1) := by decide +kernel
theorem dX4_arrange_19 : decode cX4_arrange 19 = .ok (.getfield 34, 3) := by decide +kernel
theorem dX4_arrange_22 : decode cX4_arrange 22 = .ok (.iload_n 2, 1) := by decide +kernel
theorem dX4_arrange_23 : decode cX4_arrange 23 = .ok (.aaload, 1) := by decide +kernel
theorem dX4_arrange_24 : decode cX4_arrange 24 = .ok (.getfield 38, 3) := by decide +kernel
theorem dX4_arrange_27 : decode cX4_arrange 27 = .ok (.ifCond .eq 17, 3) := by decide +kernel
theorem dX4_arrange_30 : decode cX4_arrange 30 = .ok (.aload_n 0, 1) := by decide +kernel
theorem dX4_arrange_31 : decode cX4_arrange 31 = .ok (.aload_n 1, 1) := by decide +kernel
theorem dX4_arrange_32 : decode cX4_arrange 32 = .ok (.getfield 34, 3) := by decide +kernel
theorem dX4_arrange_35 : decode cX4_arrange 35 = .ok (.iload_n 2, 1) := by decide +kernel
theorem dX4_arrange_36 : decode cX4_arrange 36 = .ok (.aaload, 1) := by decide +kernel
theorem dX4_arrange_37 : decode cX4_arrange 37 = .ok (.bipush 21, 2) := by decide +kernel
theorem dX4_arrange_39 : decode cX4_arrange 39 = .ok (.iload_n 2, 1) := by decide +kernel
theorem dX4_arrange_40 : decode cX4_arrange 40 = .ok (.iadd, 1) := by decide +kernel
theorem dX4_arrange_41 : decode cX4_arrange 41 = .ok (.invokevirtual 44, 3) := by decide +kernel
theorem dX4_arrange_44 : decode cX4_arrange 44 = .ok (.iinc 2 1, 3) := by decide +kernel
theorem dX4_arrange_47 : decode cX4_arrange 47 = .ok (.goto (-37), 3) := by decide +kernel
theorem dX4_arrange_50 : decode cX4_arrange 50 = .ok (.aload_n 0, 1) := by decide +kernel
theorem dX4_arrange_51 : decode cX4_arrange 51 = .ok (.aload_n 1, 1) := by decide +kernel
theorem dX4_arrange_52 : decode cX4_arrange 52 = .ok (.getfield 48, 3) := by decide +kernel
theorem dX4_arrange_55 : decode cX4_arrange 55 = .ok (.putfield 51, 3) := by decide +kernel
theorem dX4_arrange_58 : decode cX4_arrange 58 = .ok (.iconst 0, 1) := by decide +kernel
theorem dX4_arrange_59 : decode cX4_arrange 59 = .ok (.istore_n 2, 1) := by decide +kernel
theorem dX4_arrange_60 : decode cX4_arrange 60 = .ok (.iload_n 2, 1) := by decide +kernel
theorem dX4_arrange_61 : decode cX4_arrange 61 = .ok (.aload_n 0, 1) := by decide +kernel
theorem dX4_arrange_62 : decode cX4_arrange 62 = .ok (.getfield 51, 3) := by decide +kernel
theorem dX4_arrange_65 : decode cX4_arrange 65 = .ok (.if_icmp .ge 29, 3) := by decide +kernel
theorem dX4_arrange_68 : decode cX4_arrange 68 = .ok (.aload_n 0, 1) := by decide +kernel
theorem dX4_arrange_69 : decode cX4_arrange 69 = .ok (.getfield 17, 3) := by decide +kernel
theorem dX4_arrange_72 : decode cX4_arrange 72 = .ok (.iload_n 2, 1) := by decide +kernel
theorem dX4_arrange_73 : decode cX4_arrange 73 = .ok (.aaload, 1) := by decide +kernel
theorem dX4_arrange_74 : decode cX4_arrange 74 = .ok (.aload_n 1, 1) := by decide +kernel
theorem dX4_arrange_75 : decode cX4_arrange 75 = .ok (.getfield 52, 3) := by decide +kernel
theorem dX4_arrange_78 : decode cX4_arrange 78 = .ok (.iload_n 2, 1) := by decide +kernel
theorem dX4_arrange_79 : decode cX4_arrange 79 = .ok (.aaload, 1) := by decide +kernel
theorem dX4_arrange_80 : decode cX4_arrange 80 = .ok (.iload_n 2, 1) := by decide +kernel
theorem dX4_arrange_81 : decode cX4_arrange 81 = .ok (.aload_n 0, 1) := by decide +kernel
theorem dX4_arrange_82 : decode cX4_arrange 82 = .ok (.getfield 9, 3) := by decide +kernel
theorem dX4_arrange_85 : decode cX4_arrange 85 = .ok (.invokevirtual 56, 3) := by decide +kernel
theorem dX4_arrange_88 : decode cX4_arrange 88 = .ok (.iinc 2 1, 3) := by decide +kernel
theorem dX4_arrange_91 : decode cX4_arrange 91 = .ok (.goto (-31), 3) := by decide +kernel
theorem dX4_arrange_94 : decode cX4_arrange 94 = .ok (.return_, 1) := by decide +kernel
theorem dX4_distanceFromSentence_0 : decode cX4_distanceFromSentence 0 = .ok (.aload_n 2, 1) := by decide +kernel
theorem dX4_distanceFromSentence_1 : decode cX4_distanceFromSentence 1 = .ok (.getfield 38, 3) := by decide +kernel
theorem dX4_distanceFromSentence_4 : decode cX4_distanceFromSentence 4 = .ok (.ifCond .eq 14, 3) := by decide +kernel
theorem dX4_distanceFromSentence_7 : decode cX4_distanceFromSentence 7 = .ok (.aload_n 2, 1) := by decide +kernel
theorem dX4_distanceFromSentence_8 : decode cX4_distanceFromSentence 8 = .ok (.getfield 91, 3) := by decide +kernel
theorem dX4_distanceFromSentence_11 : decode cX4_distanceFromSentence 11 = .ok (.aload_n 0, 1) := by decide +kernel
theorem dX4_distanceFromSentence_12 : decode cX4_distanceFromSentence 12 = .ok (.getfield 51, 3) := by decide +kernel
theorem dX4_distanceFromSentence_15 : decode cX4_distanceFromSentence 15 = .ok (.if_icmp .lt 6, 3) := by decide +kernel
theorem dX4_distanceFromSentence_18 : decode cX4_distanceFromSentence 18 = .ok (.bipush (-99), 2) := by decide +kernel
theorem dX4_distanceFromSentence_20 : decode cX4_distanceFromSentence 20 = .ok (.ireturn, 1) := by decide +kernel
theorem dX4_distanceFromSentence_21 : decode cX4_distanceFromSentence 21 = .ok (.aload_n 1, 1) := by decide +kernel
theorem dX4_distanceFromSentence_22 : decode cX4_distanceFromSentence 22 = .ok (.getfield 52, 3) := by decide +kernel
theorem dX4_distanceFromSentence_25 : decode cX4_distanceFromSentence 25 = .ok (.aload_n 2, 1) := by decide +kernel
theorem dX4_distanceFromSentence_26 : decode cX4_distanceFromSentence 26 = .ok (.getfield 91, 3) := by decide +kernel
theorem dX4_distanceFromSentence_29 : decode cX4_distanceFromSentence 29 = .ok (.aaload, 1) := by decide +kernel
theorem dX4_distanceFromSentence_30 : decode cX4_distanceFromSentence 30 = .ok (.astore_n 3, 1) := by decide +kernel
theorem dX4_distanceFromSentence_31 : decode cX4_distanceFromSentence 31 = .ok (.aload_n 2, 1) := by decide +kernel
theorem dX4_distanceFromSentence_32 : decode cX4_distanceFromSentence 32 = .ok (.getfield 94, 3) := by decide +kernel
theorem dX4_distanceFromSentence_35 : decode cX4_distanceFromSentence 35 = .ok (.aload_n 3, 1) := by decide +kernel
theorem dX4_distanceFromSentence_36 : decode cX4_distanceFromSentence 36 = .ok (.getfield 97, 3) := by decide +kernel
theorem dX4_distanceFromSentence_39 : decode cX4_distanceFromSentence 39 = .ok (.if_icmp .lt 6, 3) := by decide +kernel
theorem dX4_distanceFromSentence_42 : decode cX4_distanceFromSentence 42 = .ok (.bipush (-99), 2) := by decide +kernel
theorem dX4_distanceFromSentence_44 : decode cX4_distanceFromSentence 44 = .ok (.ireturn, 1) := by decide +kernel
theorem dX4_distanceFromSentence_45 : decode cX4_distanceFromSentence 45 = .ok (.aload_n 3, 1) := by decide +kernel
theorem dX4_distanceFromSentence_46 : decode cX4_distanceFromSentence 46 = .ok (.getfield 102, 3) := by decide +kernel
theorem dX4_distanceFromSentence_49 : decode cX4_distanceFromSentence 49 = .ok (.aload_n 2, 1) := by decide +kernel
theorem dX4_distanceFromSentence_50 : decode cX4_distanceFromSentence 50 = .ok (.getfield 94, 3) := by decide +kernel
theorem dX4_distanceFromSentence_53 : decode cX4_distanceFromSentence 53 = .ok (.iaload, 1) := by decide +kernel
theorem dX4_distanceFromSentence_54 : decode cX4_distanceFromSentence 54 = .ok (.istore 4, 2) := by decide +kernel
theorem dX4_distanceFromSentence_56 : decode cX4_distanceFromSentence 56 = .ok (.aload_n 0, 1) := by decide +kernel
theorem dX4_distanceFromSentence_57 : decode cX4_distanceFromSentence 57 = .ok (.getfield 17, 3) := by decide +kernel
theorem dX4_distanceFromSentence_60 : decode cX4_distanceFromSentence 60 = .ok (.aload_n 2, 1) := by decide +kernel
theorem dX4_distanceFromSentence_61 : decode cX4_distanceFromSentence 61 = .ok (.getfield 91, 3) := by decide +kernel
theorem dX4_distanceFromSentence_64 : decode cX4_distanceFromSentence 64 = .ok (.aaload, 1) := by decide +kernel
theorem dX4_distanceFromSentence_65 : decode cX4_distanceFromSentence 65 = .ok (.iload 4, 2) := by decide +kernel
theorem dX4_distanceFromSentence_67 : decode cX4_distanceFromSentence 67 = .ok (.invokevirtual 105, 3) := by decide +kernel
theorem dX4_distanceFromSentence_70 : decode cX4_distanceFromSentence 70 = .ok (.istore 5, 2) := by decide +kernel
theorem dX4_distanceFromSentence_72 : decode cX4_distanceFromSentence 72 = .ok (.iload 5, 2) := by decide +kernel
theorem dX4_distanceFromSentence_74 : decode cX4_distanceFromSentence 74 = .ok (.bipush (-99), 2) := by decide +kernel
theorem dX4_distanceFromSentence_76 : decode cX4_distanceFromSentence 76 = .ok (.if_icmp .eq 15, 3) := by decide +kernel
theorem dX4_distanceFromSentence_79 : decode cX4_distanceFromSentence 79 = .ok (.iload 5, 2) := by decide +kernel
theorem dX4_distanceFromSentence_81 : decode cX4_distanceFromSentence 81 = .ok (.invokestatic 109, 3) := by decide +kernel
theorem dX4_distanceFromSentence_84 : decode cX4_distanceFromSentence 84 = .ok (.aload_n 2, 1) := by decide +kernel
theorem dX4_distanceFromSentence_85 : decode cX4_distanceFromSentence 85 = .ok (.getfield 78, 3) := by decide +kernel
theorem dX4_distanceFromSentence_88 : decode cX4_distanceFromSentence 88 = .ok (.if_icmp .eq 6, 3) := by decide +kernel
theorem dX4_distanceFromSentence_91 : decode cX4_distanceFromSentence 91 = .ok (.bipush (-99), 2) := by decide +kernel
theorem dX4_distanceFromSentence_93 : decode cX4_distanceFromSentence 93 = .ok (.ireturn, 1) := by decide +kernel
theorem dX4_distanceFromSentence_94 : decode cX4_distanceFromSentence 94 = .ok (.aload_n 2, 1) := by decide +kernel
theorem dX4_distanceFromSentence_95 : decode cX4_distanceFromSentence 95 = .ok (.iload 5, 2) := by decide +kernel
theorem dX4_distanceFromSentence_97 : decode cX4_distanceFromSentence 97 = .ok (.invokevirtual 112, 3) := by decide +kernel
theorem dX4_distanceFromSentence_100 : decode cX4_distanceFromSentence 100 = .ok (.ireturn, 1) := by decide +kernel
theorem dX6_expect_0 : decode cX6_expect 0 = .ok (.aload_n 0, 1) := by decide +kernel
theorem dX6_expect_1 : decode cX6_expect 1 = .ok (.invokevirtual 39, 3) := by decide +kernel
theorem dX6_expect_4 : decode cX6_expect 4 = .ok (.ifCond .eq 4, 3) := by decide +kernel
theorem dX6_expect_7 : decode cX6_expect 7 = .ok (.return_, 1) := by decide +kernel
theorem dX6_expect_8 : decode cX6_expect 8 = .ok (.aload_n 0, 1) := by decide +kernel
theorem dX6_expect_9 : decode cX6_expect 9 = .ok (.invokevirtual 43, 3) := by decide +kernel
theorem dX6_expect_12 : decode cX6_expect 12 = .ok (.iload_n 1, 1) := by decide +kernel
theorem dX6_expect_13 : decode cX6_expect 13 = .ok (.if_icmp .ne 16, 3) := by decide +kernel
theorem dX6_expect_16 : decode cX6_expect 16 = .ok (.aload_n 0, 1) := by decide +kernel
theorem dX6_expect_17 : decode cX6_expect 17 = .ok (.dup, 1) := by decide +kernel
theorem dX6_expect_18 : decode cX6_expect 18 = .ok (.getfield 36, 3) := by decide +kernel
theorem dX6_expect_21 : decode cX6_expect 21 = .ok (.iconst 1, 1) := by decide +kernel
theorem dX6_expect_22 : decode cX6_expect 22 = .ok (.iadd, 1) := by decide +kernel
theorem dX6_expect_23 : decode cX6_expect 23 = .ok (.putfield 36, 3) := by decide +kernel
theorem dX6_expect_26 : decode cX6_expect 26 = .ok (.goto 11, 3) := by decide +kernel
theorem dX6_expect_29 : decode cX6_expect 29 = .ok (.aload_n 0, 1) := by decide +kernel
theorem dX6_expect_30 : decode cX6_expect 30 = .ok (.aload_n 0, 1) := by decide +kernel
theorem dX6_expect_31 : decode cX6_expect 31 = .ok (.getfield 36, 3) := by decide +kernel
theorem dX6_expect_34 : decode cX6_expect 34 = .ok (.invokevirtual 62, 3) := by decide +kernel
theorem dX6_expect_37 : decode cX6_expect 37 = .ok (.return_, 1) := by decide +kernel
theorem dX6_readNumber_0 : decode cX6_readNumber 0 = .ok (.aload_n 0, 1) := by decide +kernel
theorem dX6_readNumber_1 : decode cX6_readNumber 1 = .ok (.invokevirtual 39, 3) := by decide +kernel
theorem dX6_readNumber_4 : decode cX6_readNumber 4 = .ok (.ifCond .eq 5, 3) := by decide +kernel
theorem dX6_readNumber_7 : decode cX6_readNumber 7 = .ok (.iload_n 1, 1) := by decide +kernel
theorem dX6_readNumber_8 : decode cX6_readNumber 8 = .ok (.ireturn, 1) := by decide +kernel
theorem dX6_readNumber_9 : decode cX6_readNumber 9 = .ok (.aload_n 0, 1) := by decide +kernel
theorem dX6_readNumber_10 : decode cX6_readNumber 10 = .ok (.invokevirtual 43, 3) := by decide +kernel
theorem dX6_readNumber_13 : decode cX6_readNumber 13 = .ok (.pop, 1) := by decide +kernel
theorem dX6_readNumber_14 : decode cX6_readNumber 14 = .ok (.aload_n 0, 1) := by decide +kernel
theorem dX6_readNumber_15 : decode cX6_readNumber 15 = .ok (.getfield 36, 3) := by decide +kernel
theorem dX6_readNumber_18 : decode cX6_readNumber 18 = .ok (.istore_n 3, 1) := by decide +kernel
theorem dX6_readNumber_19 : decode cX6_readNumber 19 = .ok (.iconst 0, 1) := by decide +kernel
theorem dX6_readNumber_20 : decode cX6_readNumber 20 = .ok (.istore 4, 2) := by decide +kernel
theorem dX6_readNumber_22 : decode cX6_readNumber 22 = .ok (.aload_n 0, 1) := by decide +kernel
theorem dX6_readNumber_23 : decode cX6_readNumber 23 = .ok (.getfield 36, 3) := by decide +kernel
theorem dX6_readNumber_26 : decode cX6_readNumber 26 = .ok (.aload_n 0, 1) := by decide +kernel
theorem dX6_readNumber_27 : decode cX6_readNumber 27 = .ok (.getfield 12, 3) := by decide +kernel
theorem dX6_readNumber_30 : decode cX6_readNumber 30 = .ok (.getfield 104, 3) := by decide +kernel
theorem dX6_readNumber_33 : decode cX6_readNumber 33 = .ok (.if_icmp .ge 63, 3) := by decide +kernel
theorem dX6_readNumber_36 : decode cX6_readNumber 36 = .ok (.aload_n 0, 1) := by decide +kernel
theorem dX6_readNumber_37 : decode cX6_readNumber 37 = .ok (.getfield 12, 3) := by decide +kernel
theorem dX6_readNumber_40 : decode cX6_readNumber 40 = .ok (.getfield 105, 3) := by decide +kernel
theorem dX6_readNumber_43 : decode cX6_readNumber 43 = .ok (.aload_n 0, 1) := by decide +kernel
theorem dX6_readNumber_44 : decode cX6_readNumber 44 = .ok (.getfield 36, 3) := by decide +kernel
theorem dX6_readNumber_47 : decode cX6_readNumber 47 = .ok (.iaload, 1) := by decide +kernel
theorem dX6_readNumber_48 : decode cX6_readNumber 48 = .ok (.invokestatic 109, 3) := by decide +kernel
theorem dX6_readNumber_51 : decode cX6_readNumber 51 = .ok (.ifCond .eq 45, 3) := by decide +kernel
theorem dX6_readNumber_54 : decode cX6_readNumber 54 = .ok (.iload 4, 2) := by decide +kernel
theorem dX6_readNumber_56 : decode cX6_readNumber 56 = .ok (.bipush 10, 2) := by decide +kernel
theorem dX6_readNumber_58 : decode cX6_readNumber 58 = .ok (.imul, 1) := by decide +kernel
theorem dX6_readNumber_59 : decode cX6_readNumber 59 = .ok (.aload_n 0, 1) := by decide +kernel
theorem dX6_readNumber_60 : decode cX6_readNumber 60 = .ok (.getfield 12, 3) := by decide +kernel
theorem dX6_readNumber_63 : decode cX6_readNumber 63 = .ok (.getfield 105, 3) := by decide +kernel
theorem dX6_readNumber_66 : decode cX6_readNumber 66 = .ok (.aload_n 0, 1) := by decide +kernel
theorem dX6_readNumber_67 : decode cX6_readNumber 67 = .ok (.getfield 36, 3) := by decide +kernel
theorem dX6_readNumber_70 : decode cX6_readNumber 70 = .ok (.iaload, 1) := by decide +kernel
theorem dX6_readNumber_71 : decode cX6_readNumber 71 = .ok (.iadd, 1) := by decide +kernel
theorem dX6_readNumber_72 : decode cX6_readNumber 72 = .ok (.bipush 48, 2) := by decide +kernel
theorem dX6_readNumber_74 : decode cX6_readNumber 74 = .ok (.isub, 1) := by decide +kernel
theorem dX6_readNumber_75 : decode cX6_readNumber 75 = .ok (.sipush 1000, 3) := by decide +kernel
theorem dX6_readNumber_78 : decode cX6_readNumber 78 = .ok (.invokestatic 112, 3) := by decide +kernel
theorem dX6_readNumber_81 : decode cX6_readNumber 81 = .ok (.istore 4, 2) := by decide +kernel
theorem dX6_readNumber_83 : decode cX6_readNumber 83 = .ok (.aload_n 0, 1) := by decide +kernel
theorem dX6_readNumber_84 : decode cX6_readNumber 84 = .ok (.dup, 1) := by decide +kernel
theorem dX6_readNumber_85 : decode cX6_readNumber 85 = .ok (.getfield 36, 3) := by decide +kernel
theorem dX6_readNumber_88 : decode cX6_readNumber 88 = .ok (.iconst 1, 1) := by decide +kernel
theorem dX6_readNumber_89 : decode cX6_readNumber 89 = .ok (.iadd, 1) := by decide +kernel
theorem dX6_readNumber_90 : decode cX6_readNumber 90 = .ok (.putfield 36, 3) := by decide +kernel
theorem dX6_readNumber_93 : decode cX6_readNumber 93 = .ok (.goto (-71), 3) := by decide +kernel
theorem dX6_readNumber_96 : decode cX6_readNumber 96 = .ok (.aload_n 0, 1) := by decide +kernel
theorem dX6_readNumber_97 : decode cX6_readNumber 97 = .ok (.getfield 36, 3) := by decide +kernel
theorem dX6_readNumber_100 : decode cX6_readNumber 100 = .ok (.iload_n 3, 1) := by decide +kernel
theorem dX6_readNumber_101 : decode cX6_readNumber 101 = .ok (.isub, 1) := by decide +kernel
theorem dX6_readNumber_102 : decode cX6_readNumber 102 = .ok (.istore 5, 2) := by decide +kernel
theorem dX6_readNumber_104 : decode cX6_readNumber 104 = .ok (.iload 5, 2) := by decide +kernel
theorem dX6_readNumber_106 : decode cX6_readNumber 106 = .ok (.ifCond .eq 33, 3) := by decide +kernel
theorem dX6_readNumber_109 : decode cX6_readNumber 109 = .ok (.iload 5, 2) := by decide +kernel
theorem dX6_readNumber_111 : decode cX6_readNumber 111 = .ok (.iconst 1, 1) := by decide +kernel
theorem dX6_readNumber_112 : decode cX6_readNumber 112 = .ok (.if_icmp .le 17, 3) := by decide +kernel
theorem dX6_readNumber_115 : decode cX6_readNumber 115 = .ok (.aload_n 0, 1) := by decide +kernel
theorem dX6_readNumber_116 : decode cX6_readNumber 116 = .ok (.getfield 12, 3) := by decide +kernel
theorem dX6_readNumber_119 : decode cX6_readNumber 119 = .ok (.getfield 105, 3) := by decide +kernel
theorem dX6_readNumber_122 : decode cX6_readNumber 122 = .ok (.iload_n 3, 1) := by decide +kernel
theorem dX6_readNumber_123 : decode cX6_readNumber 123 = .ok (.iaload, 1) := by decide +kernel
theorem dX6_readNumber_124 : decode cX6_readNumber 124 = .ok (.bipush 48, 2) := by decide +kernel
theorem dX6_readNumber_126 : decode cX6_readNumber 126 = .ok (.if_icmp .eq 13, 3) := by decide +kernel
theorem dX6_readNumber_129 : decode cX6_readNumber 129 = .ok (.iload 4, 2) := by decide +kernel
theorem dX6_readNumber_131 : decode cX6_readNumber 131 = .ok (.iload_n 1, 1) := by decide +kernel
theorem dX6_readNumber_132 : decode cX6_readNumber 132 = .ok (.iload_n 2, 1) := by decide +kernel
theorem dX6_readNumber_133 : decode cX6_readNumber 133 = .ok (.invokestatic 117, 3) := by decide +kernel
theorem dX6_readNumber_136 : decode cX6_readNumber 136 = .ok (.ifCond .ne 8, 3) := by decide +kernel
theorem dX6_readNumber_139 : decode cX6_readNumber 139 = .ok (.aload_n 0, 1) := by decide +kernel
theorem dX6_readNumber_140 : decode cX6_readNumber 140 = .ok (.iload_n 3, 1) := by decide +kernel
theorem dX6_readNumber_141 : decode cX6_readNumber 141 = .ok (.invokevirtual 62, 3) := by decide +kernel
theorem dX6_readNumber_144 : decode cX6_readNumber 144 = .ok (.iload 4, 2) := by decide +kernel
theorem dX6_readNumber_146 : decode cX6_readNumber 146 = .ok (.ireturn, 1) := by decide +kernel
theorem dX7_copyFrom_0 : decode cX7_copyFrom 0 = .ok (.aload_n 0, 1) := by decide +kernel
theorem dX7_copyFrom_1 : decode cX7_copyFrom 1 = .ok (.getfield 12, 3) := by decide +kernel
theorem dX7_copyFrom_4 : decode cX7_copyFrom 4 = .ok (.aload_n 1, 1) := by decide +kernel
theorem dX7_copyFrom_5 : decode cX7_copyFrom 5 = .ok (.getfield 12, 3) := by decide +kernel
theorem dX7_copyFrom_8 : decode cX7_copyFrom 8 = .ok (.invokevirtual 26, 3) := by decide +kernel
theorem dX7_copyFrom_11 : decode cX7_copyFrom 11 = .ok (.iconst 0, 1) := by decide +kernel
theorem dX7_copyFrom_12 : decode cX7_copyFrom 12 = .ok (.istore_n 2, 1) := by decide +kernel
theorem dX7_copyFrom_13 : decode cX7_copyFrom 13 = .ok (.iload_n 2, 1) := by decide +kernel
theorem dX7_copyFrom_14 : decode cX7_copyFrom 14 = .ok (.iconst 2, 1) := by decide +kernel
theorem dX7_copyFrom_15 : decode cX7_copyFrom 15 = .ok (.if_icmp .ge 45, 3) := by decide +kernel
theorem dX7_copyFrom_18 : decode cX7_copyFrom 18 = .ok (.aload_n 0, 1) := by decide +kernel
theorem dX7_copyFrom_19 : decode cX7_copyFrom 19 = .ok (.getfield 22, 3) := by decide +kernel
theorem dX7_copyFrom_22 : decode cX7_copyFrom 22 = .ok (.iload_n 2, 1) := by decide +kernel
theorem dX7_copyFrom_23 : decode cX7_copyFrom 23 = .ok (.aload_n 1, 1) := by decide +kernel
theorem dX7_copyFrom_24 : decode cX7_copyFrom 24 = .ok (.getfield 22, 3) := by decide +kernel
theorem dX7_copyFrom_27 : decode cX7_copyFrom 27 = .ok (.iload_n 2, 1) := by decide +kernel
theorem dX7_copyFrom_28 : decode cX7_copyFrom 28 = .ok (.baload, 1) := by decide +kernel
theorem dX7_copyFrom_29 : decode cX7_copyFrom 29 = .ok (.bastore, 1) := by decide +kernel
theorem dX7_copyFrom_30 : decode cX7_copyFrom 30 = .ok (.aload_n 0, 1) := by decide +kernel
theorem dX7_copyFrom_31 : decode cX7_copyFrom 31 = .ok (.getfield 22, 3) := by decide +kernel
theorem dX7_copyFrom_34 : decode cX7_copyFrom 34 = .ok (.iload_n 2, 1) := by decide +kernel
theorem dX7_copyFrom_35 : decode cX7_copyFrom 35 = .ok (.baload, 1) := by decide +kernel
theorem dX7_copyFrom_36 : decode cX7_copyFrom 36 = .ok (.ifCond .eq 18, 3) := by decide +kernel
theorem dX7_copyFrom_39 : decode cX7_copyFrom 39 = .ok (.aload_n 0, 1) := by decide +kernel
theorem dX7_copyFrom_40 : decode cX7_copyFrom 40 = .ok (.getfield 18, 3) := by decide +kernel
theorem dX7_copyFrom_43 : decode cX7_copyFrom 43 = .ok (.iload_n 2, 1) := by decide +kernel
theorem dX7_copyFrom_44 : decode cX7_copyFrom 44 = .ok (.aaload, 1) := by decide +kernel
theorem dX7_copyFrom_45 : decode cX7_copyFrom 45 = .ok (.aload_n 1, 1) := by decide +kernel
theorem dX7_copyFrom_46 : decode cX7_copyFrom 46 = .ok (.getfield 18, 3) := by decide +kernel
theorem dX7_copyFrom_49 : decode cX7_copyFrom 49 = .ok (.iload_n 2, 1) := by decide +kernel
theorem dX7_copyFrom_50 : decode cX7_copyFrom 50 = .ok (.aaload, 1) := by decide +kernel
theorem dX7_copyFrom_51 : decode cX7_copyFrom 51 = .ok (.invokevirtual 26, 3) := by decide +kernel
theorem dX7_copyFrom_54 : decode cX7_copyFrom 54 = .ok (.iinc 2 1, 3) := by decide +kernel
theorem dX7_copyFrom_57 : decode cX7_copyFrom 57 = .ok (.goto (-44), 3) := by decide +kernel
theorem dX7_copyFrom_60 : decode cX7_copyFrom 60 = .ok (.return_, 1) := by decide +kernel
theorem dX9_isTooNearToAnother_0 : decode cX9_isTooNearToAnother 0 = .ok (.iconst 0, 1) := by decide +kernel
theorem dX9_isTooNearToAnother_1 : decode cX9_isTooNearToAnother 1 = .ok (.istore_n 2, 1) := by decide +kernel
theorem dX9_isTooNearToAnother_2 : decode cX9_isTooNearToAnother 2 = .ok (.iload_n 2, 1) := by decide +kernel
theorem dX9_isTooNearToAnother_3 : decode cX9_isTooNearToAnother 3 = .ok (.aload_n 0, 1) := by decide +kernel
theorem dX9_isTooNearToAnother_4 : decode cX9_isTooNearToAnother 4 = .ok (.getfield 12, 3) := by decide +kernel
theorem dX9_isTooNearToAnother_7 : decode cX9_isTooNearToAnother 7 = .ok (.getfield 73, 3) := by decide +kernel
theorem dX9_isTooNearToAnother_10 : decode cX9_isTooNearToAnother 10 = .ok (.if_icmp .ge 64, 3) := by decide +kernel
theorem dX9_isTooNearToAnother_13 : decode cX9_isTooNearToAnother 13 = .ok (.aload_n 0, 1) := by decide +kernel
theorem dX9_isTooNearToAnother_14 : decode cX9_isTooNearToAnother 14 = .ok (.getfield 12, 3) := by decide +kernel
theorem dX9_isTooNearToAnother_17 : decode cX9_isTooNearToAnother 17 = .ok (.getfield 36, 3) := by decide +kernel
theorem dX9_isTooNearToAnother_20 : decode cX9_isTooNearToAnother 20 = .ok (.iload_n 2, 1) := by decide +kernel
theorem dX9_isTooNearToAnother_21 : decode cX9_isTooNearToAnother 21 = .ok (.aaload, 1) := by decide +kernel
theorem dX9_isTooNearToAnother_22 : decode cX9_isTooNearToAnother 22 = .ok (.astore_n 3, 1) := by decide +kernel
theorem dX9_isTooNearToAnother_23 : decode cX9_isTooNearToAnother 23 = .ok (.iload_n 2, 1) := by decide +kernel
theorem dX9_isTooNearToAnother_24 : decode cX9_isTooNearToAnother 24 = .ok (.aload_n 0, 1) := by decide +kernel
theorem dX9_isTooNearToAnother_25 : decode cX9_isTooNearToAnother 25 = .ok (.getfield 32, 3) := by decide +kernel
theorem dX9_isTooNearToAnother_28 : decode cX9_isTooNearToAnother 28 = .ok (.if_icmp .eq 40, 3) := by decide +kernel
theorem dX9_isTooNearToAnother_31 : decode cX9_isTooNearToAnother 31 = .ok (.aload_n 3, 1) := by decide +kernel
theorem dX9_isTooNearToAnother_32 : decode cX9_isTooNearToAnother 32 = .ok (.getfield 40, 3) := by decide +kernel
theorem dX9_isTooNearToAnother_35 : decode cX9_isTooNearToAnother 35 = .ok (.ifCond .eq 33, 3) := by decide +kernel
theorem dX9_isTooNearToAnother_38 : decode cX9_isTooNearToAnother 38 = .ok (.aload_n 3, 1) := by decide +kernel
theorem dX9_isTooNearToAnother_39 : decode cX9_isTooNearToAnother 39 = .ok (.getfield 76, 3) := by decide +kernel
theorem dX9_isTooNearToAnother_42 : decode cX9_isTooNearToAnother 42 = .ok (.aload_n 1, 1) := by decide +kernel
theorem dX9_isTooNearToAnother_43 : decode cX9_isTooNearToAnother 43 = .ok (.getfield 76, 3) := by decide +kernel
theorem dX9_isTooNearToAnother_46 : decode cX9_isTooNearToAnother 46 = .ok (.if_icmp .ne 22, 3) := by decide +kernel
theorem dX9_isTooNearToAnother_49 : decode cX9_isTooNearToAnother 49 = .ok (.aload_n 1, 1) := by decide +kernel
theorem dX9_isTooNearToAnother_50 : decode cX9_isTooNearToAnother 50 = .ok (.aload_n 3, 1) := by decide +kernel
theorem dX9_isTooNearToAnother_51 : decode cX9_isTooNearToAnother 51 = .ok (.invokevirtual 79, 3) := by decide +kernel
theorem dX9_isTooNearToAnother_54 : decode cX9_isTooNearToAnother 54 = .ok (.aload_n 0, 1) := by decide +kernel
theorem dX9_isTooNearToAnother_55 : decode cX9_isTooNearToAnother 55 = .ok (.getfield 12, 3) := by decide +kernel
theorem dX9_isTooNearToAnother_58 : decode cX9_isTooNearToAnother 58 = .ok (.getfield 82, 3) := by decide +kernel
theorem dX9_isTooNearToAnother_61 : decode cX9_isTooNearToAnother 61 = .ok (.iconst 2, 1) := by decide +kernel
theorem dX9_isTooNearToAnother_62 : decode cX9_isTooNearToAnother 62 = .ok (.iaload, 1) := by decide +kernel
theorem dX9_isTooNearToAnother_63 : decode cX9_isTooNearToAnother 63 = .ok (.if_icmp .ge 5, 3) := by decide +kernel
theorem dX9_isTooNearToAnother_66 : decode cX9_isTooNearToAnother 66 = .ok (.iconst 1, 1) := by decide +kernel
theorem dX9_isTooNearToAnother_67 : decode cX9_isTooNearToAnother 67 = .ok (.ireturn, 1) := by decide +kernel
theorem dX9_isTooNearToAnother_68 : decode cX9_isTooNearToAnother 68 = .ok (.iinc 2 1, 3) := by decide +kernel
theorem dX9_isTooNearToAnother_71 : decode cX9_isTooNearToAnother 71 = .ok (.goto (-69), 3) := by decide +kernel
theorem dX9_isTooNearToAnother_74 : decode cX9_isTooNearToAnother 74 = .ok (.iconst 0, 1) := by decide +kernel
theorem dX9_isTooNearToAnother_75 : decode cX9_isTooNearToAnother 75 = .ok (.ireturn, 1) := by decide +kernel
theorem dX11_isSentence_0 : decode cX11_isSentence 0 = .ok (.aload_n 0, 1) := by decide +kernel
theorem dX11_isSentence_1 : decode cX11_isSentence 1 = .ok (.iload_n 1, 1) := by decide +kernel
theorem dX11_isSentence_2 : decode cX11_isSentence 2 = .ok (.invokevirtual 48, 3) := by decide +kernel
theorem dX11_isSentence_5 : decode cX11_isSentence 5 = .ok (.ifCond .eq 23, 3) := by decide +kernel
theorem dX11_isSentence_8 : decode cX11_isSentence 8 = .ok (.iload_n 2, 1) := by decide +kernel
theorem dX11_isSentence_9 : decode cX11_isSentence 9 = .ok (.iconst 0, 1) := by decide +kernel
theorem dX11_isSentence_10 : decode cX11_isSentence 10 = .ok (.aload_n 0, 1) := by decide +kernel
theorem dX11_isSentence_11 : decode cX11_isSentence 11 = .ok (.iload_n 1, 1) := by decide +kernel
theorem dX11_isSentence_12 : decode cX11_isSentence 12 = .ok (.iconst 2, 1) := by decide +kernel
theorem dX11_isSentence_13 : decode cX11_isSentence 13 = .ok (.invokevirtual 52, 3) := by decide +kernel
theorem dX11_isSentence_16 : decode cX11_isSentence 16 = .ok (.iconst 1, 1) := by decide +kernel
theorem dX11_isSentence_17 : decode cX11_isSentence 17 = .ok (.isub, 1) := by decide +kernel
theorem dX11_isSentence_18 : decode cX11_isSentence 18 = .ok (.invokestatic 44, 3) := by decide +kernel
theorem dX11_isSentence_21 : decode cX11_isSentence 21 = .ok (.ifCond .eq 7, 3) := by decide +kernel
theorem dX11_isSentence_24 : decode cX11_isSentence 24 = .ok (.iconst 1, 1) := by decide +kernel
theorem dX11_isSentence_25 : decode cX11_isSentence 25 = .ok (.goto 4, 3) := by decide +kernel
theorem dX11_isSentence_28 : decode cX11_isSentence 28 = .ok (.iconst 0, 1) := by decide +kernel
theorem dX11_isSentence_29 : decode cX11_isSentence 29 = .ok (.ireturn, 1) := by decide +kernel
theorem dX11_layOut_0 : decode cX11_layOut 0 = .ok (.iconst 0, 1) := by decide +kernel
theorem dX11_layOut_1 : decode cX11_layOut 1 = .ok (.istore_n 1, 1) := by decide +kernel
theorem dX11_layOut_2 : decode cX11_layOut 2 = .ok (.iload_n 1, 1) := by decide +kernel
theorem dX11_layOut_3 : decode cX11_layOut 3 = .ok (.sipush 360, 3) := by decide +kernel
theorem dX11_layOut_6 : decode cX11_layOut 6 = .ok (.if_icmp .ge 16, 3) := by decide +kernel
theorem dX11_layOut_9 : decode cX11_layOut 9 = .ok (.aload_n 0, 1) := by decide +kernel
theorem dX11_layOut_10 : decode cX11_layOut 10 = .ok (.getfield 22, 3) := by decide +kernel
theorem dX11_layOut_13 : decode cX11_layOut 13 = .ok (.iload_n 1, 1) := by decide +kernel
theorem dX11_layOut_14 : decode cX11_layOut 14 = .ok (.iconst 0, 1) := by decide +kernel
theorem dX11_layOut_15 : decode cX11_layOut 15 = .ok (.iastore, 1) := by decide +kernel
theorem dX11_layOut_16 : decode cX11_layOut 16 = .ok (.iinc 1 1, 3) := by decide +kernel
theorem dX11_layOut_19 : decode cX11_layOut 19 = .ok (.goto (-17), 3) := by decide +kernel
theorem dX11_layOut_22 : decode cX11_layOut 22 = .ok (.iconst 0, 1) := by decide +kernel
theorem dX11_layOut_23 : decode cX11_layOut 23 = .ok (.istore_n 1, 1) := by decide +kernel
theorem dX11_layOut_24 : decode cX11_layOut 24 = .ok (.iload_n 1, 1) := by decide +kernel
theorem dX11_layOut_25 : decode cX11_layOut 25 = .ok (.aload_n 0, 1) := by decide +kernel
theorem dX11_layOut_26 : decode cX11_layOut 26 = .ok (.getfield 7, 3) := by decide +kernel
theorem dX11_layOut_29 : decode cX11_layOut 29 = .ok (.iconst 1, 1) := by decide +kernel
theorem dX11_layOut_30 : decode cX11_layOut 30 = .ok (.iaload, 1) := by decide +kernel
theorem dX11_layOut_31 : decode cX11_layOut 31 = .ok (.if_icmp .ge 22, 3) := by decide +kernel
theorem dX11_layOut_34 : decode cX11_layOut 34 = .ok (.aload_n 0, 1) := by decide +kernel
theorem dX11_layOut_35 : decode cX11_layOut 35 = .ok (.iload_n 1, 1) := by decide +kernel
theorem dX11_layOut_36 : decode cX11_layOut 36 = .ok (.invokevirtual 59, 3) := by decide +kernel
theorem dX11_layOut_39 : decode cX11_layOut 39 = .ok (.ifCond .eq 8, 3) := by decide +kernel
theorem dX11_layOut_42 : decode cX11_layOut 42 = .ok (.aload_n 0, 1) := by decide +kernel
theorem dX11_layOut_43 : decode cX11_layOut 43 = .ok (.iload_n 1, 1) := by decide +kernel
theorem dX11_layOut_44 : decode cX11_layOut 44 = .ok (.invokevirtual 62, 3) := by decide +kernel
theorem dX11_layOut_47 : decode cX11_layOut 47 = .ok (.iinc 1 1, 3) := by decide +kernel
theorem dX11_layOut_50 : decode cX11_layOut 50 = .ok (.goto (-26), 3) := by decide +kernel
theorem dX11_layOut_53 : decode cX11_layOut 53 = .ok (.iconst 0, 1) := by decide +kernel
theorem dX11_layOut_54 : decode cX11_layOut 54 = .ok (.istore_n 1, 1) := by decide +kernel
theorem dX11_layOut_55 : decode cX11_layOut 55 = .ok (.iload_n 1, 1) := by decide +kernel
theorem dX11_layOut_56 : decode cX11_layOut 56 = .ok (.aload_n 0, 1) := by decide +kernel
theorem dX11_layOut_57 : decode cX11_layOut 57 = .ok (.getfield 7, 3) := by decide +kernel
theorem dX11_layOut_60 : decode cX11_layOut 60 = .ok (.iconst 0, 1) := by decide +kernel
theorem dX11_layOut_61 : decode cX11_layOut 61 = .ok (.iaload, 1) := by decide +kernel
theorem dX11_layOut_62 : decode cX11_layOut 62 = .ok (.if_icmp .ge 14, 3) := by decide +kernel
theorem dX11_layOut_65 : decode cX11_layOut 65 = .ok (.aload_n 0, 1) := by decide +kernel
theorem dX11_layOut_66 : decode cX11_layOut 66 = .ok (.iload_n 1, 1) := by decide +kernel
theorem dX11_layOut_67 : decode cX11_layOut 67 = .ok (.invokevirtual 66, 3) := by decide +kernel
theorem dX11_layOut_70 : decode cX11_layOut 70 = .ok (.iinc 1 1, 3) := by decide +kernel
theorem dX11_layOut_73 : decode cX11_layOut 73 = .ok (.goto (-18), 3) := by decide +kernel
theorem dX11_layOut_76 : decode cX11_layOut 76 = .ok (.return_, 1) := by decide +kernel
theorem dX11_fromModule_0 : decode cX11_fromModule 0 = .ok (.iload_n 2, 1) := by decide +kernel
theorem dX11_fromModule_1 : decode cX11_fromModule 1 = .ok (.bipush 120, 2) := by decide +kernel
theorem dX11_fromModule_3 : decode cX11_fromModule 3 = .ok (.irem, 1) := by decide +kernel
theorem dX11_fromModule_4 : decode cX11_fromModule 4 = .ok (.bipush 20, 2) := by decide +kernel
theorem dX11_fromModule_6 : decode cX11_fromModule 6 = .ok (.idiv, 1) := by decide +kernel
theorem dX11_fromModule_7 : decode cX11_fromModule 7 = .ok (.istore_n 3, 1) := by decide +kernel
theorem dX11_fromModule_8 : decode cX11_fromModule 8 = .ok (.iload_n 2, 1) := by decide +kernel
theorem dX11_fromModule_9 : decode cX11_fromModule 9 = .ok (.bipush 20, 2) := by decide +kernel
theorem dX11_fromModule_11 : decode cX11_fromModule 11 = .ok (.irem, 1) := by decide +kernel
theorem dX11_fromModule_12 : decode cX11_fromModule 12 = .ok (.istore 4, 2) := by decide +kernel
theorem dX11_fromModule_14 : decode cX11_fromModule 14 = .ok (.aload_n 0, 1) := by decide +kernel
theorem dX11_fromModule_15 : decode cX11_fromModule 15 = .ok (.iload_n 1, 1) := by decide +kernel
theorem dX11_fromModule_16 : decode cX11_fromModule 16 = .ok (.bipush 6, 2) := by decide +kernel
theorem dX11_fromModule_18 : decode cX11_fromModule 18 = .ok (.invokevirtual 56, 3) := by decide +kernel
theorem dX11_fromModule_21 : decode cX11_fromModule 21 = .ok (.aload_n 0, 1) := by decide +kernel
theorem dX11_fromModule_22 : decode cX11_fromModule 22 = .ok (.iload_n 1, 1) := by decide +kernel
theorem dX11_fromModule_23 : decode cX11_fromModule 23 = .ok (.iconst 2, 1) := by decide +kernel
theorem dX11_fromModule_24 : decode cX11_fromModule 24 = .ok (.invokevirtual 56, 3) := by decide +kernel
theorem dX11_fromModule_27 : decode cX11_fromModule 27 = .ok (.iload_n 3, 1) := by decide +kernel
theorem dX11_fromModule_28 : decode cX11_fromModule 28 = .ok (.iconst 1, 1) := by decide +kernel
theorem dX11_fromModule_29 : decode cX11_fromModule 29 = .ok (.invokestatic 75, 3) := by decide +kernel
theorem dX11_fromModule_32 : decode cX11_fromModule 32 = .ok (.aload_n 0, 1) := by decide +kernel
theorem dX11_fromModule_33 : decode cX11_fromModule 33 = .ok (.iload_n 1, 1) := by decide +kernel
theorem dX11_fromModule_34 : decode cX11_fromModule 34 = .ok (.bipush 7, 2) := by decide +kernel
theorem dX11_fromModule_36 : decode cX11_fromModule 36 = .ok (.invokevirtual 56, 3) := by decide +kernel
theorem dX11_fromModule_39 : decode cX11_fromModule 39 = .ok (.aload_n 0, 1) := by decide +kernel
theorem dX11_fromModule_40 : decode cX11_fromModule 40 = .ok (.iload_n 1, 1) := by decide +kernel
theorem dX11_fromModule_41 : decode cX11_fromModule 41 = .ok (.iconst 3, 1) := by decide +kernel
theorem dX11_fromModule_42 : decode cX11_fromModule 42 = .ok (.invokevirtual 56, 3) := by decide +kernel
theorem dX11_fromModule_45 : decode cX11_fromModule 45 = .ok (.iload 4, 2) := by decide +kernel
theorem dX11_fromModule_47 : decode cX11_fromModule 47 = .ok (.iconst 1, 1) := by decide +kernel
theorem dX11_fromModule_48 : decode cX11_fromModule 48 = .ok (.invokestatic 75, 3) := by decide +kernel
theorem dX11_fromModule_51 : decode cX11_fromModule 51 = .ok (.invokestatic 72, 3) := by decide +kernel
theorem dX11_fromModule_54 : decode cX11_fromModule 54 = .ok (.ireturn, 1) := by decide +kernel
theorem dX11_between_0 : decode cX11_between 0 = .ok (.aload_n 0, 1) := by decide +kernel
theorem dX11_between_1 : decode cX11_between 1 = .ok (.iload_n 1, 1) := by decide +kernel
theorem dX11_between_2 : decode cX11_between 2 = .ok (.bipush 6, 2) := by decide +kernel
theorem dX11_between_4 : decode cX11_between 4 = .ok (.invokevirtual 56, 3) := by decide +kernel
theorem dX11_between_7 : decode cX11_between 7 = .ok (.aload_n 0, 1) := by decide +kernel
theorem dX11_between_8 : decode cX11_between 8 = .ok (.iload_n 1, 1) := by decide +kernel
theorem dX11_between_9 : decode cX11_between 9 = .ok (.iconst 2, 1) := by decide +kernel
theorem dX11_between_10 : decode cX11_between 10 = .ok (.invokevirtual 56, 3) := by decide +kernel
theorem dX11_between_13 : decode cX11_between 13 = .ok (.aload_n 0, 1) := by decide +kernel
theorem dX11_between_14 : decode cX11_between 14 = .ok (.iload_n 2, 1) := by decide +kernel
theorem dX11_between_15 : decode cX11_between 15 = .ok (.bipush 6, 2) := by decide +kernel
theorem dX11_between_17 : decode cX11_between 17 = .ok (.invokevirtual 56, 3) := by decide +kernel
theorem dX11_between_20 : decode cX11_between 20 = .ok (.aload_n 0, 1) := by decide +kernel
theorem dX11_between_21 : decode cX11_between 21 = .ok (.iload_n 2, 1) := by decide +kernel
theorem dX11_between_22 : decode cX11_between 22 = .ok (.iconst 2, 1) := by decide +kernel
theorem dX11_between_23 : decode cX11_between 23 = .ok (.invokevirtual 56, 3) := by decide +kernel
theorem dX11_between_26 : decode cX11_between 26 = .ok (.invokestatic 75, 3) := by decide +kernel
theorem dX11_between_29 : decode cX11_between 29 = .ok (.aload_n 0, 1) := by decide +kernel
theorem dX11_between_30 : decode cX11_between 30 = .ok (.iload_n 1, 1) := by decide +kernel
theorem dX11_between_31 : decode cX11_between 31 = .ok (.bipush 7, 2) := by decide +kernel
theorem dX11_between_33 : decode cX11_between 33 = .ok (.invokevirtual 56, 3) := by decide +kernel
theorem dX11_between_36 : decode cX11_between 36 = .ok (.aload_n 0, 1) := by decide +kernel
theorem dX11_between_37 : decode cX11_between 37 = .ok (.iload_n 1, 1) := by decide +kernel
theorem dX11_between_38 : decode cX11_between 38 = .ok (.iconst 3, 1) := by decide +kernel
theorem dX11_between_39 : decode cX11_between 39 = .ok (.invokevirtual 56, 3) := by decide +kernel
theorem dX11_between_42 : decode cX11_between 42 = .ok (.aload_n 0, 1) := by decide +kernel
theorem dX11_between_43 : decode cX11_between 43 = .ok (.iload_n 2, 1) := by decide +kernel
theorem dX11_between_44 : decode cX11_between 44 = .ok (.bipush 7, 2) := by decide +kernel
theorem dX11_between_46 : decode cX11_between 46 = .ok (.invokevirtual 56, 3) := by decide +kernel
theorem dX11_between_49 : decode cX11_between 49 = .ok (.aload_n 0, 1) := by decide +kernel
theorem dX11_between_50 : decode cX11_between 50 = .ok (.iload_n 2, 1) := by decide +kernel
theorem dX11_between_51 : decode cX11_between 51 = .ok (.iconst 3, 1) := by decide +kernel
theorem dX11_between_52 : decode cX11_between 52 = .ok (.invokevirtual 56, 3) := by decide +kernel
theorem dX11_between_55 : decode cX11_between 55 = .ok (.invokestatic 75, 3) := by decide +kernel
theorem dX11_between_58 : decode cX11_between 58 = .ok (.invokestatic 72, 3) := by decide +kernel
theorem dX11_between_61 : decode cX11_between 61 = .ok (.ireturn, 1) := by decide +kernel
theorem dX11_balance_0 : decode cX11_balance 0 = .ok (.iconst 0, 1) := by decide +kernel
theorem dX11_balance_1 : decode cX11_balance 1 = .ok (.istore_n 2, 1) := by decide +kernel
theorem dX11_balance_2 : decode cX11_balance 2 = .ok (.iconst 0, 1) := by decide +kernel
theorem dX11_balance_3 : decode cX11_balance 3 = .ok (.istore_n 3, 1) := by decide +kernel
theorem dX11_balance_4 : decode cX11_balance 4 = .ok (.iload_n 3, 1) := by decide +kernel
theorem dX11_balance_5 : decode cX11_balance 5 = .ok (.aload_n 0, 1) := by decide +kernel
theorem dX11_balance_6 : decode cX11_balance 6 = .ok (.getfield 7, 3) := by decide +kernel
theorem dX11_balance_9 : decode cX11_balance 9 = .ok (.iconst 1, 1) := by decide +kernel
theorem dX11_balance_10 : decode cX11_balance 10 = .ok (.iaload, 1) := by decide +kernel
theorem dX11_balance_11 : decode cX11_balance 11 = .ok (.if_icmp .ge 80, 3) := by decide +kernel
theorem dX11_balance_14 : decode cX11_balance 14 = .ok (.iconst 0, 1) := by decide +kernel
theorem dX11_balance_15 : decode cX11_balance 15 = .ok (.istore 4, 2) := by decide +kernel
theorem dX11_balance_17 : decode cX11_balance 17 = .ok (.iload 4, 2) := by decide +kernel
theorem dX11_balance_19 : decode cX11_balance 19 = .ok (.aload_n 0, 1) := by decide +kernel
theorem dX11_balance_20 : decode cX11_balance 20 = .ok (.iload_n 3, 1) := by decide +kernel
theorem dX11_balance_21 : decode cX11_balance 21 = .ok (.iconst 2, 1) := by decide +kernel
theorem dX11_balance_22 : decode cX11_balance 22 = .ok (.invokevirtual 56, 3) := by decide +kernel
theorem dX11_balance_25 : decode cX11_balance 25 = .ok (.if_icmp .ge 60, 3) := by decide +kernel
theorem dX11_balance_28 : decode cX11_balance 28 = .ok (.aload_n 0, 1) := by decide +kernel
theorem dX11_balance_29 : decode cX11_balance 29 = .ok (.iload_n 3, 1) := by decide +kernel
theorem dX11_balance_30 : decode cX11_balance 30 = .ok (.invokevirtual 59, 3) := by decide +kernel
theorem dX11_balance_33 : decode cX11_balance 33 = .ok (.ifCond .eq 52, 3) := by decide +kernel
theorem dX11_balance_36 : decode cX11_balance 36 = .ok (.aload_n 0, 1) := by decide +kernel
theorem dX11_balance_37 : decode cX11_balance 37 = .ok (.iload_n 3, 1) := by decide +kernel
theorem dX11_balance_38 : decode cX11_balance 38 = .ok (.iconst 5, 1) := by decide +kernel
theorem dX11_balance_39 : decode cX11_balance 39 = .ok (.invokevirtual 56, 3) := by decide +kernel
theorem dX11_balance_42 : decode cX11_balance 42 = .ok (.iload_n 1, 1) := by decide +kernel
theorem dX11_balance_43 : decode cX11_balance 43 = .ok (.if_icmp .ne 42, 3) := by decide +kernel
theorem dX11_balance_46 : decode cX11_balance 46 = .ok (.iload_n 2, 1) := by decide +kernel
theorem dX11_balance_47 : decode cX11_balance 47 = .ok (.aload_n 0, 1) := by decide +kernel
theorem dX11_balance_48 : decode cX11_balance 48 = .ok (.iload_n 3, 1) := by decide +kernel
theorem dX11_balance_49 : decode cX11_balance 49 = .ok (.bipush 6, 2) := by decide +kernel
theorem dX11_balance_51 : decode cX11_balance 51 = .ok (.invokevirtual 56, 3) := by decide +kernel
theorem dX11_balance_54 : decode cX11_balance 54 = .ok (.iload 4, 2) := by decide +kernel
theorem dX11_balance_56 : decode cX11_balance 56 = .ok (.iadd, 1) := by decide +kernel
theorem dX11_balance_57 : decode cX11_balance 57 = .ok (.iconst 3, 1) := by decide +kernel
theorem dX11_balance_58 : decode cX11_balance 58 = .ok (.if_icmp .ge 12, 3) := by decide +kernel
theorem dX11_balance_61 : decode cX11_balance 61 = .ok (.aload_n 0, 1) := by decide +kernel
theorem dX11_balance_62 : decode cX11_balance 62 = .ok (.iload_n 3, 1) := by decide +kernel
theorem dX11_balance_63 : decode cX11_balance 63 = .ok (.iconst 3, 1) := by decide +kernel
theorem dX11_balance_64 : decode cX11_balance 64 = .ok (.invokevirtual 56, 3) := by decide +kernel
theorem dX11_balance_67 : decode cX11_balance 67 = .ok (.goto 10, 3) := by decide +kernel
theorem dX11_balance_70 : decode cX11_balance 70 = .ok (.aload_n 0, 1) := by decide +kernel
theorem dX11_balance_71 : decode cX11_balance 71 = .ok (.iload_n 3, 1) := by decide +kernel
theorem dX11_balance_72 : decode cX11_balance 72 = .ok (.iconst 3, 1) := by decide +kernel
theorem dX11_balance_73 : decode cX11_balance 73 = .ok (.invokevirtual 56, 3) := by decide +kernel
theorem dX11_balance_76 : decode cX11_balance 76 = .ok (.ineg, 1) := by decide +kernel
theorem dX11_balance_77 : decode cX11_balance 77 = .ok (.iadd, 1) := by decide +kernel
theorem dX11_balance_78 : decode cX11_balance 78 = .ok (.istore_n 2, 1) := by decide +kernel
theorem dX11_balance_79 : decode cX11_balance 79 = .ok (.iinc 4 1, 3) := by decide +kernel
theorem dX11_balance_82 : decode cX11_balance 82 = .ok (.goto (-65), 3) := by decide +kernel
theorem dX11_balance_85 : decode cX11_balance 85 = .ok (.iinc 3 1, 3) := by decide +kernel
theorem dX11_balance_88 : decode cX11_balance 88 = .ok (.goto (-84), 3) := by decide +kernel
theorem dX11_balance_91 : decode cX11_balance 91 = .ok (.iload_n 2, 1) := by decide +kernel
theorem dX11_balance_92 : decode cX11_balance 92 = .ok (.iconst 0, 1) := by decide +kernel
theorem dX11_balance_93 : decode cX11_balance 93 = .ok (.invokestatic 89, 3) := by decide +kernel
theorem dX11_balance_96 : decode cX11_balance 96 = .ok (.ireturn, 1) := by decide +kernel
theorem dX11_putBack_0 : decode cX11_putBack 0 = .ok (.aload_n 0, 1) := by decide +kernel
theorem dX11_putBack_1 : decode cX11_putBack 1 = .ok (.iload_n 1, 1) := by decide +kernel
theorem dX11_putBack_2 : decode cX11_putBack 2 = .ok (.aload_n 0, 1) := by decide +kernel
theorem dX11_putBack_3 : decode cX11_putBack 3 = .ok (.getfield 122, 3) := by decide +kernel
theorem dX11_putBack_6 : decode cX11_putBack 6 = .ok (.aload_n 0, 1) := by decide +kernel
theorem dX11_putBack_7 : decode cX11_putBack 7 = .ok (.getfield 125, 3) := by decide +kernel
theorem dX11_putBack_10 : decode cX11_putBack 10 = .ok (.aload_n 0, 1) := by decide +kernel
theorem dX11_putBack_11 : decode cX11_putBack 11 = .ok (.getfield 128, 3) := by decide +kernel
theorem dX11_putBack_14 : decode cX11_putBack 14 = .ok (.invokevirtual 134, 3) := by decide +kernel
theorem dX11_putBack_17 : decode cX11_putBack 17 = .ok (.aload_n 0, 1) := by decide +kernel
theorem dX11_putBack_18 : decode cX11_putBack 18 = .ok (.iload_n 1, 1) := by decide +kernel
theorem dX11_putBack_19 : decode cX11_putBack 19 = .ok (.iconst 4, 1) := by decide +kernel
theorem dX11_putBack_20 : decode cX11_putBack 20 = .ok (.aload_n 0, 1) := by decide +kernel
theorem dX11_putBack_21 : decode cX11_putBack 21 = .ok (.getfield 119, 3) := by decide +kernel
theorem dX11_putBack_24 : decode cX11_putBack 24 = .ok (.invokevirtual 95, 3) := by decide +kernel
theorem dX11_putBack_27 : decode cX11_putBack 27 = .ok (.return_, 1) := by decide +kernel
theorem dX11_removeArticle_0 : decode cX11_removeArticle 0 = .ok (.aload_n 0, 1) := by decide +kernel
theorem dX11_removeArticle_1 : decode cX11_removeArticle 1 = .ok (.iconst 0, 1) := by decide +kernel
theorem dX11_removeArticle_2 : decode cX11_removeArticle 2 = .ok (.putfield 37, 3) := by decide +kernel
theorem dX11_removeArticle_5 : decode cX11_removeArticle 5 = .ok (.aload_n 0, 1) := by decide +kernel
theorem dX11_removeArticle_6 : decode cX11_removeArticle 6 = .ok (.iload_n 1, 1) := by decide +kernel
theorem dX11_removeArticle_7 : decode cX11_removeArticle 7 = .ok (.invokevirtual 48, 3) := by decide +kernel
theorem dX11_removeArticle_10 : decode cX11_removeArticle 10 = .ok (.ifCond .ne 5, 3) := by decide +kernel
theorem dX11_removeArticle_13 : decode cX11_removeArticle 13 = .ok (.iconst (-1), 1) := by decide +kernel
theorem dX11_removeArticle_14 : decode cX11_removeArticle 14 = .ok (.ireturn, 1) := by decide +kernel
theorem dX11_removeArticle_15 : decode cX11_removeArticle 15 = .ok (.aload_n 0, 1) := by decide +kernel
theorem dX11_removeArticle_16 : decode cX11_removeArticle 16 = .ok (.invokevirtual 154, 3) := by decide +kernel
theorem dX11_removeArticle_19 : decode cX11_removeArticle 19 = .ok (.aload_n 0, 1) := by decide +kernel
theorem dX11_removeArticle_20 : decode cX11_removeArticle 20 = .ok (.getfield 7, 3) := by decide +kernel
theorem dX11_removeArticle_23 : decode cX11_removeArticle 23 = .ok (.iconst 1, 1) := by decide +kernel
theorem dX11_removeArticle_24 : decode cX11_removeArticle 24 = .ok (.iaload, 1) := by decide +kernel
theorem dX11_removeArticle_25 : decode cX11_removeArticle 25 = .ok (.iconst 1, 1) := by decide +kernel
theorem dX11_removeArticle_26 : decode cX11_removeArticle 26 = .ok (.isub, 1) := by decide +kernel
theorem dX11_removeArticle_27 : decode cX11_removeArticle 27 = .ok (.istore_n 2, 1) := by decide +kernel
theorem dX11_removeArticle_28 : decode cX11_removeArticle 28 = .ok (.iload_n 2, 1) := by decide +kernel
theorem dX11_removeArticle_29 : decode cX11_removeArticle 29 = .ok (.ifCond .lt 24, 3) := by decide +kernel
theorem dX11_removeArticle_32 : decode cX11_removeArticle 32 = .ok (.aload_n 0, 1) := by decide +kernel
theorem dX11_removeArticle_33 : decode cX11_removeArticle 33 = .ok (.iload_n 2, 1) := by decide +kernel
theorem dX11_removeArticle_34 : decode cX11_removeArticle 34 = .ok (.iconst 0, 1) := by decide +kernel
theorem dX11_removeArticle_35 : decode cX11_removeArticle 35 = .ok (.invokevirtual 56, 3) := by decide +kernel
theorem dX11_removeArticle_38 : decode cX11_removeArticle 38 = .ok (.iload_n 1, 1) := by decide +kernel
theorem dX11_removeArticle_39 : decode cX11_removeArticle 39 = .ok (.if_icmp .ne 8, 3) := by decide +kernel
theorem dX11_removeArticle_42 : decode cX11_removeArticle 42 = .ok (.aload_n 0, 1) := by decide +kernel
theorem dX11_removeArticle_43 : decode cX11_removeArticle 43 = .ok (.iload_n 2, 1) := by decide +kernel
theorem dX11_removeArticle_44 : decode cX11_removeArticle 44 = .ok (.invokevirtual 161, 3) := by decide +kernel
theorem dX11_removeArticle_47 : decode cX11_removeArticle 47 = .ok (.iinc 2 (-1), 3) := by decide +kernel
theorem dX11_removeArticle_50 : decode cX11_removeArticle 50 = .ok (.goto (-22), 3) := by decide +kernel
theorem dX11_removeArticle_53 : decode cX11_removeArticle 53 = .ok (.iconst 0, 1) := by decide +kernel
theorem dX11_removeArticle_54 : decode cX11_removeArticle 54 = .ok (.istore_n 2, 1) := by decide +kernel
theorem dX11_removeArticle_55 : decode cX11_removeArticle 55 = .ok (.iload_n 2, 1) := by decide +kernel
theorem dX11_removeArticle_56 : decode cX11_removeArticle 56 = .ok (.aload_n 0, 1) := by decide +kernel
theorem dX11_removeArticle_57 : decode cX11_removeArticle 57 = .ok (.getfield 7, 3) := by decide +kernel
theorem dX11_removeArticle_60 : decode cX11_removeArticle 60 = .ok (.iconst 1, 1) := by decide +kernel
theorem dX11_removeArticle_61 : decode cX11_removeArticle 61 = .ok (.iaload, 1) := by decide +kernel
theorem dX11_removeArticle_62 : decode cX11_removeArticle 62 = .ok (.if_icmp .ge 42, 3) := by decide +kernel
theorem dX11_removeArticle_65 : decode cX11_removeArticle 65 = .ok (.aload_n 0, 1) := by decide +kernel
theorem dX11_removeArticle_66 : decode cX11_removeArticle 66 = .ok (.iload_n 2, 1) := by decide +kernel
theorem dX11_removeArticle_67 : decode cX11_removeArticle 67 = .ok (.iconst 0, 1) := by decide +kernel
theorem dX11_removeArticle_68 : decode cX11_removeArticle 68 = .ok (.aload_n 0, 1) := by decide +kernel
theorem dX11_removeArticle_69 : decode cX11_removeArticle 69 = .ok (.iload_n 2, 1) := by decide +kernel
theorem dX11_removeArticle_70 : decode cX11_removeArticle 70 = .ok (.iconst 0, 1) := by decide +kernel
theorem dX11_removeArticle_71 : decode cX11_removeArticle 71 = .ok (.invokevirtual 56, 3) := by decide +kernel
theorem dX11_removeArticle_74 : decode cX11_removeArticle 74 = .ok (.iload_n 1, 1) := by decide +kernel
theorem dX11_removeArticle_75 : decode cX11_removeArticle 75 = .ok (.if_icmp .le 14, 3) := by decide +kernel
theorem dX11_removeArticle_78 : decode cX11_removeArticle 78 = .ok (.aload_n 0, 1) := by decide +kernel
theorem dX11_removeArticle_79 : decode cX11_removeArticle 79 = .ok (.iload_n 2, 1) := by decide +kernel
theorem dX11_removeArticle_80 : decode cX11_removeArticle 80 = .ok (.iconst 0, 1) := by decide +kernel
theorem dX11_removeArticle_81 : decode cX11_removeArticle 81 = .ok (.invokevirtual 56, 3) := by decide +kernel
theorem dX11_removeArticle_84 : decode cX11_removeArticle 84 = .ok (.iconst 1, 1) := by decide +kernel
theorem dX11_removeArticle_85 : decode cX11_removeArticle 85 = .ok (.isub, 1) := by decide +kernel
theorem dX11_removeArticle_86 : decode cX11_removeArticle 86 = .ok (.goto 9, 3) := by decide +kernel
theorem dX11_removeArticle_89 : decode cX11_removeArticle 89 = .ok (.aload_n 0, 1) := by decide +kernel
theorem dX11_removeArticle_90 : decode cX11_removeArticle 90 = .ok (.iload_n 2, 1) := by decide +kernel
theorem dX11_removeArticle_91 : decode cX11_removeArticle 91 = .ok (.iconst 0, 1) := by decide +kernel
theorem dX11_removeArticle_92 : decode cX11_removeArticle 92 = .ok (.invokevirtual 56, 3) := by decide +kernel
theorem dX11_removeArticle_95 : decode cX11_removeArticle 95 = .ok (.invokevirtual 95, 3) := by decide +kernel
theorem dX11_removeArticle_98 : decode cX11_removeArticle 98 = .ok (.iinc 2 1, 3) := by decide +kernel
theorem dX11_removeArticle_101 : decode cX11_removeArticle 101 = .ok (.goto (-46), 3) := by decide +kernel
theorem dX11_removeArticle_104 : decode cX11_removeArticle 104 = .ok (.aload_n 0, 1) := by decide +kernel
theorem dX11_removeArticle_105 : decode cX11_removeArticle 105 = .ok (.getfield 7, 3) := by decide +kernel
theorem dX11_removeArticle_108 : decode cX11_removeArticle 108 = .ok (.iconst 0, 1) := by decide +kernel
theorem dX11_removeArticle_109 : decode cX11_removeArticle 109 = .ok (.dup2, 1) := by decide +kernel
theorem dX11_removeArticle_110 : decode cX11_removeArticle 110 = .ok (.iaload, 1) := by decide +kernel
theorem dX11_removeArticle_111 : decode cX11_removeArticle 111 = .ok (.iconst 1, 1) := by decide +kernel
theorem dX11_removeArticle_112 : decode cX11_removeArticle 112 = .ok (.isub, 1) := by decide +kernel
theorem dX11_removeArticle_113 : decode cX11_removeArticle 113 = .ok (.iastore, 1) := by decide +kernel
theorem dX11_removeArticle_114 : decode cX11_removeArticle 114 = .ok (.iconst 5, 1) := by decide +kernel
theorem dX11_removeArticle_115 : decode cX11_removeArticle 115 = .ok (.bipush 11, 2) := by decide +kernel
theorem dX11_removeArticle_117 : decode cX11_removeArticle 117 = .ok (.iload_n 1, 1) := by decide +kernel
theorem dX11_removeArticle_118 : decode cX11_removeArticle 118 = .ok (.imul, 1) := by decide +kernel
theorem dX11_removeArticle_119 : decode cX11_removeArticle 119 = .ok (.iadd, 1) := by decide +kernel
theorem dX11_removeArticle_120 : decode cX11_removeArticle 120 = .ok (.istore_n 2, 1) := by decide +kernel
theorem dX11_removeArticle_121 : decode cX11_removeArticle 121 = .ok (.iload_n 2, 1) := by decide +kernel
theorem dX11_removeArticle_122 : decode cX11_removeArticle 122 = .ok (.iconst 5, 1) := by decide +kernel
theorem dX11_removeArticle_123 : decode cX11_removeArticle 123 = .ok (.bipush 11, 2) := by decide +kernel
theorem dX11_removeArticle_125 : decode cX11_removeArticle 125 = .ok (.aload_n 0, 1) := by decide +kernel
theorem dX11_removeArticle_126 : decode cX11_removeArticle 126 = .ok (.getfield 7, 3) := by decide +kernel
theorem dX11_removeArticle_129 : decode cX11_removeArticle 129 = .ok (.iconst 0, 1) := by decide +kernel
theorem dX11_removeArticle_130 : decode cX11_removeArticle 130 = .ok (.iaload, 1) := by decide +kernel
theorem dX11_removeArticle_131 : decode cX11_removeArticle 131 = .ok (.imul, 1) := by decide +kernel
theorem dX11_removeArticle_132 : decode cX11_removeArticle 132 = .ok (.iadd, 1) := by decide +kernel
theorem dX11_removeArticle_133 : decode cX11_removeArticle 133 = .ok (.if_icmp .ge 24, 3) := by decide +kernel
theorem dX11_removeArticle_136 : decode cX11_removeArticle 136 = .ok (.aload_n 0, 1) := by decide +kernel
theorem dX11_removeArticle_137 : decode cX11_removeArticle 137 = .ok (.getfield 7, 3) := by decide +kernel
theorem dX11_removeArticle_140 : decode cX11_removeArticle 140 = .ok (.iload_n 2, 1) := by decide +kernel
theorem dX11_removeArticle_141 : decode cX11_removeArticle 141 = .ok (.aload_n 0, 1) := by decide +kernel
theorem dX11_removeArticle_142 : decode cX11_removeArticle 142 = .ok (.getfield 7, 3) := by decide +kernel
theorem dX11_removeArticle_145 : decode cX11_removeArticle 145 = .ok (.iload_n 2, 1) := by decide +kernel
theorem dX11_removeArticle_146 : decode cX11_removeArticle 146 = .ok (.bipush 11, 2) := by decide +kernel
theorem dX11_removeArticle_148 : decode cX11_removeArticle 148 = .ok (.iadd, 1) := by decide +kernel
theorem dX11_removeArticle_149 : decode cX11_removeArticle 149 = .ok (.iaload, 1) := by decide +kernel
theorem dX11_removeArticle_150 : decode cX11_removeArticle 150 = .ok (.iastore, 1) := by decide +kernel
theorem dX11_removeArticle_151 : decode cX11_removeArticle 151 = .ok (.iinc 2 1, 3) := by decide +kernel
theorem dX11_removeArticle_154 : decode cX11_removeArticle 154 = .ok (.goto (-33), 3) := by decide +kernel
theorem dX11_removeArticle_157 : decode cX11_removeArticle 157 = .ok (.aload_n 0, 1) := by decide +kernel
theorem dX11_removeArticle_158 : decode cX11_removeArticle 158 = .ok (.getfield 7, 3) := by decide +kernel
theorem dX11_removeArticle_161 : decode cX11_removeArticle 161 = .ok (.iconst 0, 1) := by decide +kernel
theorem dX11_removeArticle_162 : decode cX11_removeArticle 162 = .ok (.iaload, 1) := by decide +kernel
theorem dX11_removeArticle_163 : decode cX11_removeArticle 163 = .ok (.ireturn, 1) := by decide +kernel
theorem dX11_setArticle_0 : decode cX11_setArticle 0 = .ok (.aload_n 0, 1) := by decide +kernel
theorem dX11_setArticle_1 : decode cX11_setArticle 1 = .ok (.iconst 0, 1) := by decide +kernel
theorem dX11_setArticle_2 : decode cX11_setArticle 2 = .ok (.putfield 37, 3) := by decide +kernel
theorem dX11_setArticle_5 : decode cX11_setArticle 5 = .ok (.aload_n 0, 1) := by decide +kernel
theorem dX11_setArticle_6 : decode cX11_setArticle 6 = .ok (.iload_n 1, 1) := by decide +kernel
theorem dX11_setArticle_7 : decode cX11_setArticle 7 = .ok (.invokevirtual 48, 3) := by decide +kernel
theorem dX11_setArticle_10 : decode cX11_setArticle 10 = .ok (.ifCond .eq 12, 3) := by decide +kernel
theorem dX11_setArticle_13 : decode cX11_setArticle 13 = .ok (.iload_n 2, 1) := by decide +kernel
theorem dX11_setArticle_14 : decode cX11_setArticle 14 = .ok (.iconst 0, 1) := by decide +kernel
theorem dX11_setArticle_15 : decode cX11_setArticle 15 = .ok (.iconst 1, 1) := by decide +kernel
theorem dX11_setArticle_16 : decode cX11_setArticle 16 = .ok (.invokestatic 44, 3) := by decide +kernel
theorem dX11_setArticle_19 : decode cX11_setArticle 19 = .ok (.ifCond .ne 5, 3) := by decide +kernel
theorem dX11_setArticle_22 : decode cX11_setArticle 22 = .ok (.iconst (-1), 1) := by decide +kernel
theorem dX11_setArticle_23 : decode cX11_setArticle 23 = .ok (.ireturn, 1) := by decide +kernel
theorem dX11_setArticle_24 : decode cX11_setArticle 24 = .ok (.iload_n 2, 1) := by decide +kernel
theorem dX11_setArticle_25 : decode cX11_setArticle 25 = .ok (.ifCond .ne 17, 3) := by decide +kernel
theorem dX11_setArticle_28 : decode cX11_setArticle 28 = .ok (.iload_n 3, 1) := by decide +kernel
theorem dX11_setArticle_29 : decode cX11_setArticle 29 = .ok (.iconst 0, 1) := by decide +kernel
theorem dX11_setArticle_30 : decode cX11_setArticle 30 = .ok (.sipush 359, 3) := by decide +kernel
theorem dX11_setArticle_33 : decode cX11_setArticle 33 = .ok (.invokestatic 44, 3) := by decide +kernel
theorem dX11_setArticle_36 : decode cX11_setArticle 36 = .ok (.ifCond .ne 28, 3) := by decide +kernel
theorem dX11_setArticle_39 : decode cX11_setArticle 39 = .ok (.goto 23, 3) := by decide +kernel
theorem dX11_setArticle_42 : decode cX11_setArticle 42 = .ok (.iload_n 3, 1) := by decide +kernel
theorem dX11_setArticle_43 : decode cX11_setArticle 43 = .ok (.iconst 1, 1) := by decide +kernel
theorem dX11_setArticle_44 : decode cX11_setArticle 44 = .ok (.sipush 200, 3) := by decide +kernel
theorem dX11_setArticle_47 : decode cX11_setArticle 47 = .ok (.invokestatic 44, 3) := by decide +kernel
theorem dX11_setArticle_50 : decode cX11_setArticle 50 = .ok (.ifCond .eq 12, 3) := by decide +kernel
theorem dX11_setArticle_53 : decode cX11_setArticle 53 = .ok (.iload_n 3, 1) := by decide +kernel
theorem dX11_setArticle_54 : decode cX11_setArticle 54 = .ok (.aload_n 0, 1) := by decide +kernel
theorem dX11_setArticle_55 : decode cX11_setArticle 55 = .ok (.iload_n 1, 1) := by decide +kernel
theorem dX11_setArticle_56 : decode cX11_setArticle 56 = .ok (.invokevirtual 164, 3) := by decide +kernel
theorem dX11_setArticle_59 : decode cX11_setArticle 59 = .ok (.if_icmp .gt 5, 3) := by decide +kernel
theorem dX11_setArticle_62 : decode cX11_setArticle 62 = .ok (.iconst (-1), 1) := by decide +kernel
theorem dX11_setArticle_63 : decode cX11_setArticle 63 = .ok (.ireturn, 1) := by decide +kernel
theorem dX11_setArticle_64 : decode cX11_setArticle 64 = .ok (.aload_n 0, 1) := by decide +kernel
theorem dX11_setArticle_65 : decode cX11_setArticle 65 = .ok (.invokevirtual 154, 3) := by decide +kernel
theorem dX11_setArticle_68 : decode cX11_setArticle 68 = .ok (.aload_n 0, 1) := by decide +kernel
theorem dX11_setArticle_69 : decode cX11_setArticle 69 = .ok (.iload_n 1, 1) := by decide +kernel
theorem dX11_setArticle_70 : decode cX11_setArticle 70 = .ok (.iload_n 2, 1) := by decide +kernel
theorem dX11_setArticle_71 : decode cX11_setArticle 71 = .ok (.invokevirtual 52, 3) := by decide +kernel
theorem dX11_setArticle_74 : decode cX11_setArticle 74 = .ok (.istore 4, 2) := by decide +kernel
theorem dX11_setArticle_76 : decode cX11_setArticle 76 = .ok (.aload_n 0, 1) := by decide +kernel
theorem dX11_setArticle_77 : decode cX11_setArticle 77 = .ok (.getfield 7, 3) := by decide +kernel
theorem dX11_setArticle_80 : decode cX11_setArticle 80 = .ok (.iconst 5, 1) := by decide +kernel
theorem dX11_setArticle_81 : decode cX11_setArticle 81 = .ok (.bipush 11, 2) := by decide +kernel
theorem dX11_setArticle_83 : decode cX11_setArticle 83 = .ok (.iload_n 1, 1) := by decide +kernel
theorem dX11_setArticle_84 : decode cX11_setArticle 84 = .ok (.imul, 1) := by decide +kernel
theorem dX11_setArticle_85 : decode cX11_setArticle 85 = .ok (.iadd, 1) := by decide +kernel
theorem dX11_setArticle_86 : decode cX11_setArticle 86 = .ok (.iload_n 2, 1) := by decide +kernel
theorem dX11_setArticle_87 : decode cX11_setArticle 87 = .ok (.iadd, 1) := by decide +kernel
theorem dX11_setArticle_88 : decode cX11_setArticle 88 = .ok (.iload_n 3, 1) := by decide +kernel
theorem dX11_setArticle_89 : decode cX11_setArticle 89 = .ok (.iastore, 1) := by decide +kernel
theorem dX11_setArticle_90 : decode cX11_setArticle 90 = .ok (.iload 4, 2) := by decide +kernel
theorem dX11_setArticle_92 : decode cX11_setArticle 92 = .ok (.ireturn, 1) := by decide +kernel
theorem dX11_addSentence_0 : decode cX11_addSentence 0 = .ok (.aload_n 0, 1) := by decide +kernel
theorem dX11_addSentence_1 : decode cX11_addSentence 1 = .ok (.iconst 0, 1) := by decide +kernel
theorem dX11_addSentence_2 : decode cX11_addSentence 2 = .ok (.putfield 37, 3) := by decide +kernel
theorem dX11_addSentence_5 : decode cX11_addSentence 5 = .ok (.aload_n 0, 1) := by decide +kernel
theorem dX11_addSentence_6 : decode cX11_addSentence 6 = .ok (.iload_n 1, 1) := by decide +kernel
theorem dX11_addSentence_7 : decode cX11_addSentence 7 = .ok (.invokevirtual 48, 3) := by decide +kernel
theorem dX11_addSentence_10 : decode cX11_addSentence 10 = .ok (.ifCond .eq 19, 3) := by decide +kernel
theorem dX11_addSentence_13 : decode cX11_addSentence 13 = .ok (.iload_n 2, 1) := by decide +kernel
theorem dX11_addSentence_14 : decode cX11_addSentence 14 = .ok (.iconst 0, 1) := by decide +kernel
theorem dX11_addSentence_15 : decode cX11_addSentence 15 = .ok (.aload_n 0, 1) := by decide +kernel
theorem dX11_addSentence_16 : decode cX11_addSentence 16 = .ok (.iload_n 1, 1) := by decide +kernel
theorem dX11_addSentence_17 : decode cX11_addSentence 17 = .ok (.iconst 1, 1) := by decide +kernel
theorem dX11_addSentence_18 : decode cX11_addSentence 18 = .ok (.invokevirtual 52, 3) := by decide +kernel
theorem dX11_addSentence_21 : decode cX11_addSentence 21 = .ok (.iconst 1, 1) := by decide +kernel
theorem dX11_addSentence_22 : decode cX11_addSentence 22 = .ok (.isub, 1) := by decide +kernel
theorem dX11_addSentence_23 : decode cX11_addSentence 23 = .ok (.invokestatic 44, 3) := by decide +kernel
theorem dX11_addSentence_26 : decode cX11_addSentence 26 = .ok (.ifCond .ne 5, 3) := by decide +kernel
theorem dX11_addSentence_29 : decode cX11_addSentence 29 = .ok (.iconst (-1), 1) := by decide +kernel
theorem dX11_addSentence_30 : decode cX11_addSentence 30 = .ok (.ireturn, 1) := by decide +kernel
theorem dX11_addSentence_31 : decode cX11_addSentence 31 = .ok (.aload_n 0, 1) := by decide +kernel
theorem dX11_addSentence_32 : decode cX11_addSentence 32 = .ok (.iload_n 1, 1) := by decide +kernel
theorem dX11_addSentence_33 : decode cX11_addSentence 33 = .ok (.iconst 2, 1) := by decide +kernel
theorem dX11_addSentence_34 : decode cX11_addSentence 34 = .ok (.invokevirtual 52, 3) := by decide +kernel
theorem dX11_addSentence_37 : decode cX11_addSentence 37 = .ok (.bipush 8, 2) := by decide +kernel
theorem dX11_addSentence_39 : decode cX11_addSentence 39 = .ok (.if_icmp .ne 6, 3) := by decide +kernel
theorem dX11_addSentence_42 : decode cX11_addSentence 42 = .ok (.bipush (-3), 2) := by decide +kernel
theorem dX11_addSentence_44 : decode cX11_addSentence 44 = .ok (.ireturn, 1) := by decide +kernel
theorem dX11_addSentence_45 : decode cX11_addSentence 45 = .ok (.aload_n 0, 1) := by decide +kernel
theorem dX11_addSentence_46 : decode cX11_addSentence 46 = .ok (.invokevirtual 154, 3) := by decide +kernel
theorem dX11_addSentence_49 : decode cX11_addSentence 49 = .ok (.aload_n 0, 1) := by decide +kernel
theorem dX11_addSentence_50 : decode cX11_addSentence 50 = .ok (.iload_n 1, 1) := by decide +kernel
theorem dX11_addSentence_51 : decode cX11_addSentence 51 = .ok (.iload_n 2, 1) := by decide +kernel
theorem dX11_addSentence_52 : decode cX11_addSentence 52 = .ok (.invokevirtual 167, 3) := by decide +kernel
theorem dX11_addSentence_55 : decode cX11_addSentence 55 = .ok (.ireturn, 1) := by decide +kernel
theorem dX11_putQuote_0 : decode cX11_putQuote 0 = .ok (.aload_n 0, 1) := by decide +kernel
theorem dX11_putQuote_1 : decode cX11_putQuote 1 = .ok (.getfield 7, 3) := by decide +kernel
theorem dX11_putQuote_4 : decode cX11_putQuote 4 = .ok (.iconst 1, 1) := by decide +kernel
theorem dX11_putQuote_5 : decode cX11_putQuote 5 = .ok (.iaload, 1) := by decide +kernel
theorem dX11_putQuote_6 : decode cX11_putQuote 6 = .ok (.istore 5, 2) := by decide +kernel
theorem dX11_putQuote_8 : decode cX11_putQuote 8 = .ok (.aload_n 0, 1) := by decide +kernel
theorem dX11_putQuote_9 : decode cX11_putQuote 9 = .ok (.getfield 7, 3) := by decide +kernel
theorem dX11_putQuote_12 : decode cX11_putQuote 12 = .ok (.iconst 1, 1) := by decide +kernel
theorem dX11_putQuote_13 : decode cX11_putQuote 13 = .ok (.dup2, 1) := by decide +kernel
theorem dX11_putQuote_14 : decode cX11_putQuote 14 = .ok (.iaload, 1) := by decide +kernel
theorem dX11_putQuote_15 : decode cX11_putQuote 15 = .ok (.iconst 1, 1) := by decide +kernel
theorem dX11_putQuote_16 : decode cX11_putQuote 16 = .ok (.iadd, 1) := by decide +kernel
theorem dX11_putQuote_17 : decode cX11_putQuote 17 = .ok (.iastore, 1) := by decide +kernel
theorem dX11_putQuote_18 : decode cX11_putQuote 18 = .ok (.aload_n 0, 1) := by decide +kernel
theorem dX11_putQuote_19 : decode cX11_putQuote 19 = .ok (.iload 5, 2) := by decide +kernel
theorem dX11_putQuote_21 : decode cX11_putQuote 21 = .ok (.iconst 0, 1) := by decide +kernel
theorem dX11_putQuote_22 : decode cX11_putQuote 22 = .ok (.iload_n 1, 1) := by decide +kernel
theorem dX11_putQuote_23 : decode cX11_putQuote 23 = .ok (.invokevirtual 95, 3) := by decide +kernel
theorem dX11_putQuote_26 : decode cX11_putQuote 26 = .ok (.aload_n 0, 1) := by decide +kernel
theorem dX11_putQuote_27 : decode cX11_putQuote 27 = .ok (.iload 5, 2) := by decide +kernel
theorem dX11_putQuote_29 : decode cX11_putQuote 29 = .ok (.iconst 1, 1) := by decide +kernel
theorem dX11_putQuote_30 : decode cX11_putQuote 30 = .ok (.iload_n 2, 1) := by decide +kernel
theorem dX11_putQuote_31 : decode cX11_putQuote 31 = .ok (.invokevirtual 95, 3) := by decide +kernel
theorem dX11_putQuote_34 : decode cX11_putQuote 34 = .ok (.aload_n 0, 1) := by decide +kernel
theorem dX11_putQuote_35 : decode cX11_putQuote 35 = .ok (.iload 5, 2) := by decide +kernel
theorem dX11_putQuote_37 : decode cX11_putQuote 37 = .ok (.iconst 2, 1) := by decide +kernel
theorem dX11_putQuote_38 : decode cX11_putQuote 38 = .ok (.iload_n 3, 1) := by decide +kernel
theorem dX11_putQuote_39 : decode cX11_putQuote 39 = .ok (.invokevirtual 95, 3) := by decide +kernel
theorem dX11_putQuote_42 : decode cX11_putQuote 42 = .ok (.aload_n 0, 1) := by decide +kernel
theorem dX11_putQuote_43 : decode cX11_putQuote 43 = .ok (.iload 5, 2) := by decide +kernel
theorem dX11_putQuote_45 : decode cX11_putQuote 45 = .ok (.iconst 3, 1) := by decide +kernel
theorem dX11_putQuote_46 : decode cX11_putQuote 46 = .ok (.iload 4, 2) := by decide +kernel
theorem dX11_putQuote_48 : decode cX11_putQuote 48 = .ok (.invokevirtual 95, 3) := by decide +kernel
theorem dX11_putQuote_51 : decode cX11_putQuote 51 = .ok (.aload_n 0, 1) := by decide +kernel
theorem dX11_putQuote_52 : decode cX11_putQuote 52 = .ok (.iload 5, 2) := by decide +kernel
theorem dX11_putQuote_54 : decode cX11_putQuote 54 = .ok (.iconst 0, 1) := by decide +kernel
theorem dX11_putQuote_55 : decode cX11_putQuote 55 = .ok (.iconst 0, 1) := by decide +kernel
theorem dX11_putQuote_56 : decode cX11_putQuote 56 = .ok (.iconst 0, 1) := by decide +kernel
theorem dX11_putQuote_57 : decode cX11_putQuote 57 = .ok (.invokevirtual 134, 3) := by decide +kernel
theorem dX11_putQuote_60 : decode cX11_putQuote 60 = .ok (.aload_n 0, 1) := by decide +kernel
theorem dX11_putQuote_61 : decode cX11_putQuote 61 = .ok (.iload 5, 2) := by decide +kernel
theorem dX11_putQuote_63 : decode cX11_putQuote 63 = .ok (.iconst 4, 1) := by decide +kernel
theorem dX11_putQuote_64 : decode cX11_putQuote 64 = .ok (.iconst 0, 1) := by decide +kernel
theorem dX11_putQuote_65 : decode cX11_putQuote 65 = .ok (.invokevirtual 95, 3) := by decide +kernel
theorem dX11_putQuote_68 : decode cX11_putQuote 68 = .ok (.return_, 1) := by decide +kernel
theorem dX11_removeQuote_0 : decode cX11_removeQuote 0 = .ok (.aload_n 0, 1) := by decide +kernel
theorem dX11_removeQuote_1 : decode cX11_removeQuote 1 = .ok (.iconst 0, 1) := by decide +kernel
theorem dX11_removeQuote_2 : decode cX11_removeQuote 2 = .ok (.putfield 37, 3) := by decide +kernel
theorem dX11_removeQuote_5 : decode cX11_removeQuote 5 = .ok (.aload_n 0, 1) := by decide +kernel
theorem dX11_removeQuote_6 : decode cX11_removeQuote 6 = .ok (.iload_n 1, 1) := by decide +kernel
theorem dX11_removeQuote_7 : decode cX11_removeQuote 7 = .ok (.invokevirtual 176, 3) := by decide +kernel
theorem dX11_removeQuote_10 : decode cX11_removeQuote 10 = .ok (.ifCond .ne 5, 3) := by decide +kernel
theorem dX11_removeQuote_13 : decode cX11_removeQuote 13 = .ok (.iconst (-1), 1) := by decide +kernel
theorem dX11_removeQuote_14 : decode cX11_removeQuote 14 = .ok (.ireturn, 1) := by decide +kernel
theorem dX11_removeQuote_15 : decode cX11_removeQuote 15 = .ok (.aload_n 0, 1) := by decide +kernel
theorem dX11_removeQuote_16 : decode cX11_removeQuote 16 = .ok (.invokevirtual 154, 3) := by decide +kernel
theorem dX11_removeQuote_19 : decode cX11_removeQuote 19 = .ok (.aload_n 0, 1) := by decide +kernel
theorem dX11_removeQuote_20 : decode cX11_removeQuote 20 = .ok (.iload_n 1, 1) := by decide +kernel
theorem dX11_removeQuote_21 : decode cX11_removeQuote 21 = .ok (.invokevirtual 161, 3) := by decide +kernel
theorem dX11_removeQuote_24 : decode cX11_removeQuote 24 = .ok (.aload_n 0, 1) := by decide +kernel
theorem dX11_removeQuote_25 : decode cX11_removeQuote 25 = .ok (.getfield 7, 3) := by decide +kernel
theorem dX11_removeQuote_28 : decode cX11_removeQuote 28 = .ok (.iconst 1, 1) := by decide +kernel
theorem dX11_removeQuote_29 : decode cX11_removeQuote 29 = .ok (.iaload, 1) := by decide +kernel
theorem dX11_removeQuote_30 : decode cX11_removeQuote 30 = .ok (.ireturn, 1) := by decide +kernel
theorem dX11_take_0 : decode cX11_take 0 = .ok (.aload_n 0, 1) := by decide +kernel
theorem dX11_take_1 : decode cX11_take 1 = .ok (.iconst 0, 1) := by decide +kernel
theorem dX11_take_2 : decode cX11_take 2 = .ok (.putfield 37, 3) := by decide +kernel
theorem dX11_take_5 : decode cX11_take 5 = .ok (.iload_n 1, 1) := by decide +kernel
theorem dX11_take_6 : decode cX11_take 6 = .ok (.iconst 0, 1) := by decide +kernel
theorem dX11_take_7 : decode cX11_take 7 = .ok (.iconst 1, 1) := by decide +kernel
theorem dX11_take_8 : decode cX11_take 8 = .ok (.invokestatic 44, 3) := by decide +kernel
theorem dX11_take_11 : decode cX11_take 11 = .ok (.ifCond .ne 5, 3) := by decide +kernel
theorem dX11_take_14 : decode cX11_take 14 = .ok (.iconst (-1), 1) := by decide +kernel
theorem dX11_take_15 : decode cX11_take 15 = .ok (.ireturn, 1) := by decide +kernel
theorem dX11_take_16 : decode cX11_take 16 = .ok (.aload_n 0, 1) := by decide +kernel
theorem dX11_take_17 : decode cX11_take 17 = .ok (.invokevirtual 154, 3) := by decide +kernel
theorem dX11_take_20 : decode cX11_take 20 = .ok (.sipush 135, 3) := by decide +kernel
theorem dX11_take_23 : decode cX11_take 23 = .ok (.sipush 136, 3) := by decide +kernel
theorem dX11_take_26 : decode cX11_take 26 = .ok (.iload_n 1, 1) := by decide +kernel
theorem dX11_take_27 : decode cX11_take 27 = .ok (.imul, 1) := by decide +kernel
theorem dX11_take_28 : decode cX11_take 28 = .ok (.iadd, 1) := by decide +kernel
theorem dX11_take_29 : decode cX11_take 29 = .ok (.istore_n 2, 1) := by decide +kernel
theorem dX11_take_30 : decode cX11_take 30 = .ok (.aload_n 0, 1) := by decide +kernel
theorem dX11_take_31 : decode cX11_take 31 = .ok (.getfield 7, 3) := by decide +kernel
theorem dX11_take_34 : decode cX11_take 34 = .ok (.iload_n 2, 1) := by decide +kernel
theorem dX11_take_35 : decode cX11_take 35 = .ok (.iconst 1, 1) := by decide +kernel
theorem dX11_take_36 : decode cX11_take 36 = .ok (.iastore, 1) := by decide +kernel
theorem dX11_take_37 : decode cX11_take 37 = .ok (.iconst 0, 1) := by decide +kernel
theorem dX11_take_38 : decode cX11_take 38 = .ok (.istore_n 3, 1) := by decide +kernel
theorem dX11_take_39 : decode cX11_take 39 = .ok (.iload_n 3, 1) := by decide +kernel
theorem dX11_take_40 : decode cX11_take 40 = .ok (.sipush 135, 3) := by decide +kernel
theorem dX11_take_43 : decode cX11_take 43 = .ok (.if_icmp .ge 25, 3) := by decide +kernel
theorem dX11_take_46 : decode cX11_take 46 = .ok (.aload_n 0, 1) := by decide +kernel
theorem dX11_take_47 : decode cX11_take 47 = .ok (.getfield 7, 3) := by decide +kernel
theorem dX11_take_50 : decode cX11_take 50 = .ok (.iload_n 2, 1) := by decide +kernel
theorem dX11_take_51 : decode cX11_take 51 = .ok (.iconst 1, 1) := by decide +kernel
theorem dX11_take_52 : decode cX11_take 52 = .ok (.iadd, 1) := by decide +kernel
theorem dX11_take_53 : decode cX11_take 53 = .ok (.iload_n 3, 1) := by decide +kernel
theorem dX11_take_54 : decode cX11_take 54 = .ok (.iadd, 1) := by decide +kernel
theorem dX11_take_55 : decode cX11_take 55 = .ok (.aload_n 0, 1) := by decide +kernel
theorem dX11_take_56 : decode cX11_take 56 = .ok (.getfield 7, 3) := by decide +kernel
theorem dX11_take_59 : decode cX11_take 59 = .ok (.iload_n 3, 1) := by decide +kernel
theorem dX11_take_60 : decode cX11_take 60 = .ok (.iaload, 1) := by decide +kernel
theorem dX11_take_61 : decode cX11_take 61 = .ok (.iastore, 1) := by decide +kernel
theorem dX11_take_62 : decode cX11_take 62 = .ok (.iinc 3 1, 3) := by decide +kernel
theorem dX11_take_65 : decode cX11_take 65 = .ok (.goto (-26), 3) := by decide +kernel
theorem dX11_take_68 : decode cX11_take 68 = .ok (.aload_n 0, 1) := by decide +kernel
theorem dX11_take_69 : decode cX11_take 69 = .ok (.invokevirtual 188, 3) := by decide +kernel
theorem dX11_take_72 : decode cX11_take 72 = .ok (.ireturn, 1) := by decide +kernel
theorem dX11_restore_0 : decode cX11_restore 0 = .ok (.aload_n 0, 1) := by decide +kernel
theorem dX11_restore_1 : decode cX11_restore 1 = .ok (.iconst 0, 1) := by decide +kernel
theorem dX11_restore_2 : decode cX11_restore 2 = .ok (.putfield 37, 3) := by decide +kernel
theorem dX11_restore_5 : decode cX11_restore 5 = .ok (.iload_n 1, 1) := by decide +kernel
theorem dX11_restore_6 : decode cX11_restore 6 = .ok (.iconst 0, 1) := by decide +kernel
theorem dX11_restore_7 : decode cX11_restore 7 = .ok (.iconst 1, 1) := by decide +kernel
theorem dX11_restore_8 : decode cX11_restore 8 = .ok (.invokestatic 44, 3) := by decide +kernel
theorem dX11_restore_11 : decode cX11_restore 11 = .ok (.ifCond .ne 5, 3) := by decide +kernel
theorem dX11_restore_14 : decode cX11_restore 14 = .ok (.iconst (-1), 1) := by decide +kernel
theorem dX11_restore_15 : decode cX11_restore 15 = .ok (.ireturn, 1) := by decide +kernel
theorem dX11_restore_16 : decode cX11_restore 16 = .ok (.sipush 135, 3) := by decide +kernel
theorem dX11_restore_19 : decode cX11_restore 19 = .ok (.sipush 136, 3) := by decide +kernel
theorem dX11_restore_22 : decode cX11_restore 22 = .ok (.iload_n 1, 1) := by decide +kernel
theorem dX11_restore_23 : decode cX11_restore 23 = .ok (.imul, 1) := by decide +kernel
theorem dX11_restore_24 : decode cX11_restore 24 = .ok (.iadd, 1) := by decide +kernel
theorem dX11_restore_25 : decode cX11_restore 25 = .ok (.istore_n 2, 1) := by decide +kernel
theorem dX11_restore_26 : decode cX11_restore 26 = .ok (.aload_n 0, 1) := by decide +kernel
theorem dX11_restore_27 : decode cX11_restore 27 = .ok (.getfield 7, 3) := by decide +kernel
theorem dX11_restore_30 : decode cX11_restore 30 = .ok (.iload_n 2, 1) := by decide +kernel
theorem dX11_restore_31 : decode cX11_restore 31 = .ok (.iaload, 1) := by decide +kernel
theorem dX11_restore_32 : decode cX11_restore 32 = .ok (.ifCond .ne 6, 3) := by decide +kernel
theorem dX11_restore_35 : decode cX11_restore 35 = .ok (.bipush (-2), 2) := by decide +kernel
theorem dX11_restore_37 : decode cX11_restore 37 = .ok (.ireturn, 1) := by decide +kernel
theorem dX11_restore_38 : decode cX11_restore 38 = .ok (.aload_n 0, 1) := by decide +kernel
theorem dX11_restore_39 : decode cX11_restore 39 = .ok (.invokevirtual 154, 3) := by decide +kernel
theorem dX11_restore_42 : decode cX11_restore 42 = .ok (.iconst 0, 1) := by decide +kernel
theorem dX11_restore_43 : decode cX11_restore 43 = .ok (.istore_n 3, 1) := by decide +kernel
theorem dX11_restore_44 : decode cX11_restore 44 = .ok (.iload_n 3, 1) := by decide +kernel
theorem dX11_restore_45 : decode cX11_restore 45 = .ok (.sipush 135, 3) := by decide +kernel
theorem dX11_restore_48 : decode cX11_restore 48 = .ok (.if_icmp .ge 25, 3) := by decide +kernel
theorem dX11_restore_51 : decode cX11_restore 51 = .ok (.aload_n 0, 1) := by decide +kernel
theorem dX11_restore_52 : decode cX11_restore 52 = .ok (.getfield 7, 3) := by decide +kernel
theorem dX11_restore_55 : decode cX11_restore 55 = .ok (.iload_n 3, 1) := by decide +kernel
theorem dX11_restore_56 : decode cX11_restore 56 = .ok (.aload_n 0, 1) := by decide +kernel
theorem dX11_restore_57 : decode cX11_restore 57 = .ok (.getfield 7, 3) := by decide +kernel
theorem dX11_restore_60 : decode cX11_restore 60 = .ok (.iload_n 2, 1) := by decide +kernel
theorem dX11_restore_61 : decode cX11_restore 61 = .ok (.iconst 1, 1) := by decide +kernel
theorem dX11_restore_62 : decode cX11_restore 62 = .ok (.iadd, 1) := by decide +kernel
theorem dX11_restore_63 : decode cX11_restore 63 = .ok (.iload_n 3, 1) := by decide +kernel
theorem dX11_restore_64 : decode cX11_restore 64 = .ok (.iadd, 1) := by decide +kernel
theorem dX11_restore_65 : decode cX11_restore 65 = .ok (.iaload, 1) := by decide +kernel
theorem dX11_restore_66 : decode cX11_restore 66 = .ok (.iastore, 1) := by decide +kernel
theorem dX11_restore_67 : decode cX11_restore 67 = .ok (.iinc 3 1, 3) := by decide +kernel
theorem dX11_restore_70 : decode cX11_restore 70 = .ok (.goto (-26), 3) := by decide +kernel
theorem dX11_restore_73 : decode cX11_restore 73 = .ok (.aload_n 0, 1) := by decide +kernel
theorem dX11_restore_74 : decode cX11_restore 74 = .ok (.invokevirtual 188, 3) := by decide +kernel
theorem dX11_restore_77 : decode cX11_restore 77 = .ok (.ireturn, 1) := by decide +kernel
theorem dX11_readsSentences_0 : decode cX11_readsSentences 0 = .ok (.iconst 1, 1) := by decide +kernel
theorem dX11_readsSentences_1 : decode cX11_readsSentences 1 = .ok (.istore_n 2, 1) := by decide +kernel
theorem dX11_readsSentences_2 : decode cX11_readsSentences 2 = .ok (.iload_n 2, 1) := by decide +kernel
theorem dX11_readsSentences_3 : decode cX11_readsSentences 3 = .ok (.ifCond .eq 80, 3) := by decide +kernel
theorem dX11_readsSentences_6 : decode cX11_readsSentences 6 = .ok (.aload_n 0, 1) := by decide +kernel
theorem dX11_readsSentences_7 : decode cX11_readsSentences 7 = .ok (.iload_n 1, 1) := by decide +kernel
theorem dX11_readsSentences_8 : decode cX11_readsSentences 8 = .ok (.iconst 2, 1) := by decide +kernel
theorem dX11_readsSentences_9 : decode cX11_readsSentences 9 = .ok (.invokevirtual 52, 3) := by decide +kernel
theorem dX11_readsSentences_12 : decode cX11_readsSentences 12 = .ok (.bipush 8, 2) := by decide +kernel
theorem dX11_readsSentences_14 : decode cX11_readsSentences 14 = .ok (.if_icmp .ne 7, 3) := by decide +kernel
theorem dX11_readsSentences_17 : decode cX11_readsSentences 17 = .ok (.iconst 1, 1) := by decide +kernel
theorem dX11_readsSentences_18 : decode cX11_readsSentences 18 = .ok (.goto 4, 3) := by decide +kernel
theorem dX11_readsSentences_21 : decode cX11_readsSentences 21 = .ok (.iconst 0, 1) := by decide +kernel
theorem dX11_readsSentences_22 : decode cX11_readsSentences 22 = .ok (.istore_n 3, 1) := by decide +kernel
theorem dX11_readsSentences_23 : decode cX11_readsSentences 23 = .ok (.aload_n 0, 1) := by decide +kernel
theorem dX11_readsSentences_24 : decode cX11_readsSentences 24 = .ok (.iconst 0, 1) := by decide +kernel
theorem dX11_readsSentences_25 : decode cX11_readsSentences 25 = .ok (.iload_n 3, 1) := by decide +kernel
theorem dX11_readsSentences_26 : decode cX11_readsSentences 26 = .ok (.ifCond .eq 7, 3) := by decide +kernel
theorem dX11_readsSentences_29 : decode cX11_readsSentences 29 = .ok (.iconst (-1), 1) := by decide +kernel
theorem dX11_readsSentences_30 : decode cX11_readsSentences 30 = .ok (.goto 11, 3) := by decide +kernel
theorem dX11_readsSentences_33 : decode cX11_readsSentences 33 = .ok (.aload_n 0, 1) := by decide +kernel
theorem dX11_readsSentences_34 : decode cX11_readsSentences 34 = .ok (.iload_n 1, 1) := by decide +kernel
theorem dX11_readsSentences_35 : decode cX11_readsSentences 35 = .ok (.iconst 1, 1) := by decide +kernel
theorem dX11_readsSentences_36 : decode cX11_readsSentences 36 = .ok (.invokevirtual 52, 3) := by decide +kernel
theorem dX11_readsSentences_39 : decode cX11_readsSentences 39 = .ok (.iconst 1, 1) := by decide +kernel
theorem dX11_readsSentences_40 : decode cX11_readsSentences 40 = .ok (.isub, 1) := by decide +kernel
theorem dX11_readsSentences_41 : decode cX11_readsSentences 41 = .ok (.invokevirtual 204, 3) := by decide +kernel
theorem dX11_readsSentences_44 : decode cX11_readsSentences 44 = .ok (.ifCond .ne 5, 3) := by decide +kernel
theorem dX11_readsSentences_47 : decode cX11_readsSentences 47 = .ok (.iconst 0, 1) := by decide +kernel
theorem dX11_readsSentences_48 : decode cX11_readsSentences 48 = .ok (.ireturn, 1) := by decide +kernel
theorem dX11_readsSentences_49 : decode cX11_readsSentences 49 = .ok (.aload_n 0, 1) := by decide +kernel
theorem dX11_readsSentences_50 : decode cX11_readsSentences 50 = .ok (.iload_n 1, 1) := by decide +kernel
theorem dX11_readsSentences_51 : decode cX11_readsSentences 51 = .ok (.aload_n 0, 1) := by decide +kernel
theorem dX11_readsSentences_52 : decode cX11_readsSentences 52 = .ok (.getfield 201, 3) := by decide +kernel
theorem dX11_readsSentences_55 : decode cX11_readsSentences 55 = .ok (.invokevirtual 167, 3) := by decide +kernel
theorem dX11_readsSentences_58 : decode cX11_readsSentences 58 = .ok (.istore 4, 2) := by decide +kernel
theorem dX11_readsSentences_60 : decode cX11_readsSentences 60 = .ok (.iload 4, 2) := by decide +kernel
theorem dX11_readsSentences_62 : decode cX11_readsSentences 62 = .ok (.ifCond .lt 16, 3) := by decide +kernel
theorem dX11_readsSentences_65 : decode cX11_readsSentences 65 = .ok (.aload_n 0, 1) := by decide +kernel
theorem dX11_readsSentences_66 : decode cX11_readsSentences 66 = .ok (.bipush 44, 2) := by decide +kernel
theorem dX11_readsSentences_68 : decode cX11_readsSentences 68 = .ok (.invokevirtual 207, 3) := by decide +kernel
theorem dX11_readsSentences_71 : decode cX11_readsSentences 71 = .ok (.ifCond .eq 7, 3) := by decide +kernel
theorem dX11_readsSentences_74 : decode cX11_readsSentences 74 = .ok (.iconst 1, 1) := by decide +kernel
theorem dX11_readsSentences_75 : decode cX11_readsSentences 75 = .ok (.goto 4, 3) := by decide +kernel
theorem dX11_readsSentences_78 : decode cX11_readsSentences 78 = .ok (.iconst 0, 1) := by decide +kernel
theorem dX11_readsSentences_79 : decode cX11_readsSentences 79 = .ok (.istore_n 2, 1) := by decide +kernel
theorem dX11_readsSentences_80 : decode cX11_readsSentences 80 = .ok (.goto (-78), 3) := by decide +kernel
theorem dX11_readsSentences_83 : decode cX11_readsSentences 83 = .ok (.aload_n 0, 1) := by decide +kernel
theorem dX11_readsSentences_84 : decode cX11_readsSentences 84 = .ok (.bipush 59, 2) := by decide +kernel
theorem dX11_readsSentences_86 : decode cX11_readsSentences 86 = .ok (.invokevirtual 207, 3) := by decide +kernel
theorem dX11_readsSentences_89 : decode cX11_readsSentences 89 = .ok (.ireturn, 1) := by decide +kernel
theorem dX1_dropArticle_0 : decode cX1_dropArticle 0 = .ok (.aload_n 0, 1) := by decide +kernel
theorem dX1_dropArticle_1 : decode cX1_dropArticle 1 = .ok (.iload_n 1, 1) := by decide +kernel
theorem dX1_dropArticle_2 : decode cX1_dropArticle 2 = .ok (.invokevirtual 53, 3) := by decide +kernel
theorem dX1_dropArticle_5 : decode cX1_dropArticle 5 = .ok (.ifCond .ne 4, 3) := by decide +kernel
theorem dX1_dropArticle_8 : decode cX1_dropArticle 8 = .ok (.return_, 1) := by decide +kernel
theorem dX1_dropArticle_9 : decode cX1_dropArticle 9 = .ok (.aload_n 0, 1) := by decide +kernel
theorem dX1_dropArticle_10 : decode cX1_dropArticle 10 = .ok (.getfield 37, 3) := by decide +kernel
theorem dX1_dropArticle_13 : decode cX1_dropArticle 13 = .ok (.iconst 1, 1) := by decide +kernel
theorem dX1_dropArticle_14 : decode cX1_dropArticle 14 = .ok (.isub, 1) := by decide +kernel
theorem dX1_dropArticle_15 : decode cX1_dropArticle 15 = .ok (.istore_n 2, 1) := by decide +kernel
theorem dX1_dropArticle_16 : decode cX1_dropArticle 16 = .ok (.iload_n 2, 1) := by decide +kernel
theorem dX1_dropArticle_17 : decode cX1_dropArticle 17 = .ok (.ifCond .lt 58, 3) := by decide +kernel
theorem dX1_dropArticle_20 : decode cX1_dropArticle 20 = .ok (.aload_n 0, 1) := by decide +kernel
theorem dX1_dropArticle_21 : decode cX1_dropArticle 21 = .ok (.getfield 19, 3) := by decide +kernel
theorem dX1_dropArticle_24 : decode cX1_dropArticle 24 = .ok (.iload_n 2, 1) := by decide +kernel
theorem dX1_dropArticle_25 : decode cX1_dropArticle 25 = .ok (.aaload, 1) := by decide +kernel
theorem dX1_dropArticle_26 : decode cX1_dropArticle 26 = .ok (.getfield 66, 3) := by decide +kernel
theorem dX1_dropArticle_29 : decode cX1_dropArticle 29 = .ok (.iload_n 1, 1) := by decide +kernel
theorem dX1_dropArticle_30 : decode cX1_dropArticle 30 = .ok (.if_icmp .ne 11, 3) := by decide +kernel
theorem dX1_dropArticle_33 : decode cX1_dropArticle 33 = .ok (.aload_n 0, 1) := by decide +kernel
theorem dX1_dropArticle_34 : decode cX1_dropArticle 34 = .ok (.iload_n 2, 1) := by decide +kernel
theorem dX1_dropArticle_35 : decode cX1_dropArticle 35 = .ok (.invokevirtual 82, 3) := by decide +kernel
theorem dX1_dropArticle_38 : decode cX1_dropArticle 38 = .ok (.goto 31, 3) := by decide +kernel
theorem dX1_dropArticle_41 : decode cX1_dropArticle 41 = .ok (.aload_n 0, 1) := by decide +kernel
theorem dX1_dropArticle_42 : decode cX1_dropArticle 42 = .ok (.getfield 19, 3) := by decide +kernel
theorem dX1_dropArticle_45 : decode cX1_dropArticle 45 = .ok (.iload_n 2, 1) := by decide +kernel
theorem dX1_dropArticle_46 : decode cX1_dropArticle 46 = .ok (.aaload, 1) := by decide +kernel
theorem dX1_dropArticle_47 : decode cX1_dropArticle 47 = .ok (.getfield 66, 3) := by decide +kernel
theorem dX1_dropArticle_50 : decode cX1_dropArticle 50 = .ok (.iload_n 1, 1) := by decide +kernel
theorem dX1_dropArticle_51 : decode cX1_dropArticle 51 = .ok (.if_icmp .le 18, 3) := by decide +kernel
theorem dX1_dropArticle_54 : decode cX1_dropArticle 54 = .ok (.aload_n 0, 1) := by decide +kernel
theorem dX1_dropArticle_55 : decode cX1_dropArticle 55 = .ok (.getfield 19, 3) := by decide +kernel
theorem dX1_dropArticle_58 : decode cX1_dropArticle 58 = .ok (.iload_n 2, 1) := by decide +kernel
theorem dX1_dropArticle_59 : decode cX1_dropArticle 59 = .ok (.aaload, 1) := by decide +kernel
theorem dX1_dropArticle_60 : decode cX1_dropArticle 60 = .ok (.dup, 1) := by decide +kernel
theorem dX1_dropArticle_61 : decode cX1_dropArticle 61 = .ok (.getfield 66, 3) := by decide +kernel
theorem dX1_dropArticle_64 : decode cX1_dropArticle 64 = .ok (.iconst 1, 1) := by decide +kernel
theorem dX1_dropArticle_65 : decode cX1_dropArticle 65 = .ok (.isub, 1) := by decide +kernel
theorem dX1_dropArticle_66 : decode cX1_dropArticle 66 = .ok (.putfield 66, 3) := by decide +kernel
theorem dX1_dropArticle_69 : decode cX1_dropArticle 69 = .ok (.iinc 2 (-1), 3) := by decide +kernel
theorem dX1_dropArticle_72 : decode cX1_dropArticle 72 = .ok (.goto (-56), 3) := by decide +kernel
theorem dX1_dropArticle_75 : decode cX1_dropArticle 75 = .ok (.aload_n 0, 1) := by decide +kernel
theorem dX1_dropArticle_76 : decode cX1_dropArticle 76 = .ok (.dup, 1) := by decide +kernel
theorem dX1_dropArticle_77 : decode cX1_dropArticle 77 = .ok (.getfield 29, 3) := by decide +kernel
theorem dX1_dropArticle_80 : decode cX1_dropArticle 80 = .ok (.iconst 1, 1) := by decide +kernel
theorem dX1_dropArticle_81 : decode cX1_dropArticle 81 = .ok (.isub, 1) := by decide +kernel
theorem dX1_dropArticle_82 : decode cX1_dropArticle 82 = .ok (.putfield 29, 3) := by decide +kernel
theorem dX1_dropArticle_85 : decode cX1_dropArticle 85 = .ok (.iload_n 1, 1) := by decide +kernel
theorem dX1_dropArticle_86 : decode cX1_dropArticle 86 = .ok (.istore_n 2, 1) := by decide +kernel
theorem dX1_dropArticle_87 : decode cX1_dropArticle 87 = .ok (.iload_n 2, 1) := by decide +kernel
theorem dX1_dropArticle_88 : decode cX1_dropArticle 88 = .ok (.aload_n 0, 1) := by decide +kernel
theorem dX1_dropArticle_89 : decode cX1_dropArticle 89 = .ok (.getfield 29, 3) := by decide +kernel
theorem dX1_dropArticle_92 : decode cX1_dropArticle 92 = .ok (.if_icmp .ge 26, 3) := by decide +kernel
theorem dX1_dropArticle_95 : decode cX1_dropArticle 95 = .ok (.aload_n 0, 1) := by decide +kernel
theorem dX1_dropArticle_96 : decode cX1_dropArticle 96 = .ok (.getfield 11, 3) := by decide +kernel
theorem dX1_dropArticle_99 : decode cX1_dropArticle 99 = .ok (.iload_n 2, 1) := by decide +kernel
theorem dX1_dropArticle_100 : decode cX1_dropArticle 100 = .ok (.aaload, 1) := by decide +kernel
theorem dX1_dropArticle_101 : decode cX1_dropArticle 101 = .ok (.aload_n 0, 1) := by decide +kernel
theorem dX1_dropArticle_102 : decode cX1_dropArticle 102 = .ok (.getfield 11, 3) := by decide +kernel
theorem dX1_dropArticle_105 : decode cX1_dropArticle 105 = .ok (.iload_n 2, 1) := by decide +kernel
theorem dX1_dropArticle_106 : decode cX1_dropArticle 106 = .ok (.iconst 1, 1) := by decide +kernel
theorem dX1_dropArticle_107 : decode cX1_dropArticle 107 = .ok (.iadd, 1) := by decide +kernel
theorem dX1_dropArticle_108 : decode cX1_dropArticle 108 = .ok (.aaload, 1) := by decide +kernel
theorem dX1_dropArticle_109 : decode cX1_dropArticle 109 = .ok (.invokevirtual 33, 3) := by decide +kernel
theorem dX1_dropArticle_112 : decode cX1_dropArticle 112 = .ok (.iinc 2 1, 3) := by decide +kernel
theorem dX1_dropArticle_115 : decode cX1_dropArticle 115 = .ok (.goto (-28), 3) := by decide +kernel
theorem dX1_dropArticle_118 : decode cX1_dropArticle 118 = .ok (.return_, 1) := by decide +kernel
theorem dX1_unrest_0 : decode cX1_unrest 0 = .ok (.iconst 0, 1) := by decide +kernel
theorem dX1_unrest_1 : decode cX1_unrest 1 = .ok (.istore_n 1, 1) := by decide +kernel
theorem dX1_unrest_2 : decode cX1_unrest 2 = .ok (.iconst 0, 1) := by decide +kernel
theorem dX1_unrest_3 : decode cX1_unrest 3 = .ok (.istore_n 2, 1) := by decide +kernel
theorem dX1_unrest_4 : decode cX1_unrest 4 = .ok (.iload_n 2, 1) := by decide +kernel
theorem dX1_unrest_5 : decode cX1_unrest 5 = .ok (.iconst 3, 1) := by decide +kernel
theorem dX1_unrest_6 : decode cX1_unrest 6 = .ok (.if_icmp .ge 17, 3) := by decide +kernel
theorem dX1_unrest_9 : decode cX1_unrest 9 = .ok (.iload_n 1, 1) := by decide +kernel
theorem dX1_unrest_10 : decode cX1_unrest 10 = .ok (.aload_n 0, 1) := by decide +kernel
theorem dX1_unrest_11 : decode cX1_unrest 11 = .ok (.iload_n 2, 1) := by decide +kernel
theorem dX1_unrest_12 : decode cX1_unrest 12 = .ok (.invokevirtual 102, 3) := by decide +kernel
theorem dX1_unrest_15 : decode cX1_unrest 15 = .ok (.iadd, 1) := by decide +kernel
theorem dX1_unrest_16 : decode cX1_unrest 16 = .ok (.istore_n 1, 1) := by decide +kernel
theorem dX1_unrest_17 : decode cX1_unrest 17 = .ok (.iinc 2 1, 3) := by decide +kernel
theorem dX1_unrest_20 : decode cX1_unrest 20 = .ok (.goto (-16), 3) := by decide +kernel
theorem dX1_unrest_23 : decode cX1_unrest 23 = .ok (.iload_n 1, 1) := by decide +kernel
theorem dX1_unrest_24 : decode cX1_unrest 24 = .ok (.ireturn, 1) := by decide +kernel
theorem dX3_keep_0 : decode cX3_keep 0 = .ok (.aload_n 0, 1) := by decide +kernel
theorem dX3_keep_1 : decode cX3_keep 1 = .ok (.getfield 18, 3) := by decide +kernel
theorem dX3_keep_4 : decode cX3_keep 4 = .ok (.iconst 5, 1) := by decide +kernel
theorem dX3_keep_5 : decode cX3_keep 5 = .ok (.if_icmp .lt 7, 3) := by decide +kernel
theorem dX3_keep_8 : decode cX3_keep 8 = .ok (.aload_n 0, 1) := by decide +kernel
theorem dX3_keep_9 : decode cX3_keep 9 = .ok (.invokevirtual 22, 3) := by decide +kernel
theorem dX3_keep_12 : decode cX3_keep 12 = .ok (.aload_n 0, 1) := by decide +kernel
theorem dX3_keep_13 : decode cX3_keep 13 = .ok (.getfield 11, 3) := by decide +kernel
theorem dX3_keep_16 : decode cX3_keep 16 = .ok (.aload_n 0, 1) := by decide +kernel
theorem dX3_keep_17 : decode cX3_keep 17 = .ok (.getfield 18, 3) := by decide +kernel
theorem dX3_keep_20 : decode cX3_keep 20 = .ok (.aaload, 1) := by decide +kernel
theorem dX3_keep_21 : decode cX3_keep 21 = .ok (.aload_n 1, 1) := by decide +kernel
theorem dX3_keep_22 : decode cX3_keep 22 = .ok (.invokevirtual 25, 3) := by decide +kernel
theorem dX3_keep_25 : decode cX3_keep 25 = .ok (.aload_n 0, 1) := by decide +kernel
theorem dX3_keep_26 : decode cX3_keep 26 = .ok (.dup, 1) := by decide +kernel
theorem dX3_keep_27 : decode cX3_keep 27 = .ok (.getfield 18, 3) := by decide +kernel
theorem dX3_keep_30 : decode cX3_keep 30 = .ok (.iconst 1, 1) := by decide +kernel
theorem dX3_keep_31 : decode cX3_keep 31 = .ok (.iadd, 1) := by decide +kernel
theorem dX3_keep_32 : decode cX3_keep 32 = .ok (.putfield 18, 3) := by decide +kernel
theorem dX3_keep_35 : decode cX3_keep 35 = .ok (.return_, 1) := by decide +kernel
theorem dX3_giveBackTo_0 : decode cX3_giveBackTo 0 = .ok (.aload_n 0, 1) := by decide +kernel
theorem dX3_giveBackTo_1 : decode cX3_giveBackTo 1 = .ok (.getfield 18, 3) := by decide +kernel
theorem dX3_giveBackTo_4 : decode cX3_giveBackTo 4 = .ok (.ifCond .le 26, 3) := by decide +kernel
theorem dX3_giveBackTo_7 : decode cX3_giveBackTo 7 = .ok (.aload_n 0, 1) := by decide +kernel
theorem dX3_giveBackTo_8 : decode cX3_giveBackTo 8 = .ok (.dup, 1) := by decide +kernel
theorem dX3_giveBackTo_9 : decode cX3_giveBackTo 9 = .ok (.getfield 18, 3) := by decide +kernel
theorem dX3_giveBackTo_12 : decode cX3_giveBackTo 12 = .ok (.iconst 1, 1) := by decide +kernel
theorem dX3_giveBackTo_13 : decode cX3_giveBackTo 13 = .ok (.isub, 1) := by decide +kernel
theorem dX3_giveBackTo_14 : decode cX3_giveBackTo 14 = .ok (.putfield 18, 3) := by decide +kernel
theorem dX3_giveBackTo_17 : decode cX3_giveBackTo 17 = .ok (.aload_n 1, 1) := by decide +kernel
theorem dX3_giveBackTo_18 : decode cX3_giveBackTo 18 = .ok (.aload_n 0, 1) := by decide +kernel
theorem dX3_giveBackTo_19 : decode cX3_giveBackTo 19 = .ok (.getfield 11, 3) := by decide +kernel
theorem dX3_giveBackTo_22 : decode cX3_giveBackTo 22 = .ok (.aload_n 0, 1) := by decide +kernel
theorem dX3_giveBackTo_23 : decode cX3_giveBackTo 23 = .ok (.getfield 18, 3) := by decide +kernel
theorem dX3_giveBackTo_26 : decode cX3_giveBackTo 26 = .ok (.aaload, 1) := by decide +kernel
theorem dX3_giveBackTo_27 : decode cX3_giveBackTo 27 = .ok (.invokevirtual 25, 3) := by decide +kernel
theorem dX3_giveBackTo_30 : decode cX3_giveBackTo 30 = .ok (.return_, 1) := by decide +kernel
theorem dX6_readLines_0 : decode cX6_readLines 0 = .ok (.iconst 0, 1) := by decide +kernel
theorem dX6_readLines_1 : decode cX6_readLines 1 = .ok (.istore_n 2, 1) := by decide +kernel
theorem dX6_readLines_2 : decode cX6_readLines 2 = .ok (.iload_n 2, 1) := by decide +kernel
theorem dX6_readLines_3 : decode cX6_readLines 3 = .ok (.bipush 8, 2) := by decide +kernel
theorem dX6_readLines_5 : decode cX6_readLines 5 = .ok (.if_icmp .gt 89, 3) := by decide +kernel
theorem dX6_readLines_8 : decode cX6_readLines 8 = .ok (.aload_n 0, 1) := by decide +kernel
theorem dX6_readLines_9 : decode cX6_readLines 9 = .ok (.invokevirtual 39, 3) := by decide +kernel
theorem dX6_readLines_12 : decode cX6_readLines 12 = .ok (.ifCond .ne 82, 3) := by decide +kernel
theorem dX6_readLines_15 : decode cX6_readLines 15 = .ok (.aload_n 0, 1) := by decide +kernel
theorem dX6_readLines_16 : decode cX6_readLines 16 = .ok (.invokevirtual 43, 3) := by decide +kernel
theorem dX6_readLines_19 : decode cX6_readLines 19 = .ok (.pop, 1) := by decide +kernel
theorem dX6_readLines_20 : decode cX6_readLines 20 = .ok (.aload_n 0, 1) := by decide +kernel
theorem dX6_readLines_21 : decode cX6_readLines 21 = .ok (.getfield 36, 3) := by decide +kernel
theorem dX6_readLines_24 : decode cX6_readLines 24 = .ok (.istore_n 3, 1) := by decide +kernel
theorem dX6_readLines_25 : decode cX6_readLines 25 = .ok (.aload_n 0, 1) := by decide +kernel
theorem dX6_readLines_26 : decode cX6_readLines 26 = .ok (.iconst 0, 1) := by decide +kernel
theorem dX6_readLines_27 : decode cX6_readLines 27 = .ok (.aload_n 1, 1) := by decide +kernel
theorem dX6_readLines_28 : decode cX6_readLines 28 = .ok (.getfield 88, 3) := by decide +kernel
theorem dX6_readLines_31 : decode cX6_readLines 31 = .ok (.iconst 1, 1) := by decide +kernel
theorem dX6_readLines_32 : decode cX6_readLines 32 = .ok (.isub, 1) := by decide +kernel
theorem dX6_readLines_33 : decode cX6_readLines 33 = .ok (.invokevirtual 69, 3) := by decide +kernel
theorem dX6_readLines_36 : decode cX6_readLines 36 = .ok (.istore 4, 2) := by decide +kernel
theorem dX6_readLines_38 : decode cX6_readLines 38 = .ok (.aload_n 0, 1) := by decide +kernel
theorem dX6_readLines_39 : decode cX6_readLines 39 = .ok (.invokevirtual 39, 3) := by decide +kernel
theorem dX6_readLines_42 : decode cX6_readLines 42 = .ok (.ifCond .eq 4, 3) := by decide +kernel
theorem dX6_readLines_45 : decode cX6_readLines 45 = .ok (.return_, 1) := by decide +kernel
theorem dX6_readLines_46 : decode cX6_readLines 46 = .ok (.aload_n 1, 1) := by decide +kernel
theorem dX6_readLines_47 : decode cX6_readLines 47 = .ok (.getfield 93, 3) := by decide +kernel
theorem dX6_readLines_50 : decode cX6_readLines 50 = .ok (.bipush 8, 2) := by decide +kernel
theorem dX6_readLines_52 : decode cX6_readLines 52 = .ok (.if_icmp .lt 9, 3) := by decide +kernel
theorem dX6_readLines_55 : decode cX6_readLines 55 = .ok (.aload_n 0, 1) := by decide +kernel
theorem dX6_readLines_56 : decode cX6_readLines 56 = .ok (.iload_n 3, 1) := by decide +kernel
theorem dX6_readLines_57 : decode cX6_readLines 57 = .ok (.invokevirtual 62, 3) := by decide +kernel
theorem dX6_readLines_60 : decode cX6_readLines 60 = .ok (.return_, 1) := by decide +kernel
theorem dX6_readLines_61 : decode cX6_readLines 61 = .ok (.aload_n 1, 1) := by decide +kernel
theorem dX6_readLines_62 : decode cX6_readLines 62 = .ok (.iload 4, 2) := by decide +kernel
theorem dX6_readLines_64 : decode cX6_readLines 64 = .ok (.invokevirtual 96, 3) := by decide +kernel
theorem dX6_readLines_67 : decode cX6_readLines 67 = .ok (.pop, 1) := by decide +kernel
theorem dX6_readLines_68 : decode cX6_readLines 68 = .ok (.aload_n 0, 1) := by decide +kernel
theorem dX6_readLines_69 : decode cX6_readLines 69 = .ok (.invokevirtual 43, 3) := by decide +kernel
theorem dX6_readLines_72 : decode cX6_readLines 72 = .ok (.bipush 44, 2) := by decide +kernel
theorem dX6_readLines_74 : decode cX6_readLines 74 = .ok (.if_icmp .eq 4, 3) := by decide +kernel
theorem dX6_readLines_77 : decode cX6_readLines 77 = .ok (.return_, 1) := by decide +kernel
theorem dX6_readLines_78 : decode cX6_readLines 78 = .ok (.aload_n 0, 1) := by decide +kernel
theorem dX6_readLines_79 : decode cX6_readLines 79 = .ok (.dup, 1) := by decide +kernel
theorem dX6_readLines_80 : decode cX6_readLines 80 = .ok (.getfield 36, 3) := by decide +kernel
theorem dX6_readLines_83 : decode cX6_readLines 83 = .ok (.iconst 1, 1) := by decide +kernel
theorem dX6_readLines_84 : decode cX6_readLines 84 = .ok (.iadd, 1) := by decide +kernel
theorem dX6_readLines_85 : decode cX6_readLines 85 = .ok (.putfield 36, 3) := by decide +kernel
theorem dX6_readLines_88 : decode cX6_readLines 88 = .ok (.iinc 2 1, 3) := by decide +kernel
theorem dX6_readLines_91 : decode cX6_readLines 91 = .ok (.goto (-89), 3) := by decide +kernel
theorem dX6_readLines_94 : decode cX6_readLines 94 = .ok (.return_, 1) := by decide +kernel
theorem dX6_readQuote_0 : decode cX6_readQuote 0 = .ok (.aload_n 0, 1) := by decide +kernel
theorem dX6_readQuote_1 : decode cX6_readQuote 1 = .ok (.iconst 0, 1) := by decide +kernel
theorem dX6_readQuote_2 : decode cX6_readQuote 2 = .ok (.aload_n 0, 1) := by decide +kernel
theorem dX6_readQuote_3 : decode cX6_readQuote 3 = .ok (.getfield 21, 3) := by decide +kernel
theorem dX6_readQuote_6 : decode cX6_readQuote 6 = .ok (.getfield 50, 3) := by decide +kernel
theorem dX6_readQuote_9 : decode cX6_readQuote 9 = .ok (.iconst 1, 1) := by decide +kernel
theorem dX6_readQuote_10 : decode cX6_readQuote 10 = .ok (.isub, 1) := by decide +kernel
theorem dX6_readQuote_11 : decode cX6_readQuote 11 = .ok (.invokevirtual 69, 3) := by decide +kernel
theorem dX6_readQuote_14 : decode cX6_readQuote 14 = .ok (.istore_n 1, 1) := by decide +kernel
theorem dX6_readQuote_15 : decode cX6_readQuote 15 = .ok (.aload_n 0, 1) := by decide +kernel
theorem dX6_readQuote_16 : decode cX6_readQuote 16 = .ok (.invokevirtual 39, 3) := by decide +kernel
theorem dX6_readQuote_19 : decode cX6_readQuote 19 = .ok (.ifCond .ne 14, 3) := by decide +kernel
theorem dX6_readQuote_22 : decode cX6_readQuote 22 = .ok (.aload_n 0, 1) := by decide +kernel
theorem dX6_readQuote_23 : decode cX6_readQuote 23 = .ok (.getfield 21, 3) := by decide +kernel
theorem dX6_readQuote_26 : decode cX6_readQuote 26 = .ok (.iload_n 1, 1) := by decide +kernel
theorem dX6_readQuote_27 : decode cX6_readQuote 27 = .ok (.invokevirtual 76, 3) := by decide +kernel
theorem dX6_readQuote_30 : decode cX6_readQuote 30 = .ok (.ifCond .ne 4, 3) := by decide +kernel
theorem dX6_readQuote_33 : decode cX6_readQuote 33 = .ok (.return_, 1) := by decide +kernel
theorem dX6_readQuote_34 : decode cX6_readQuote 34 = .ok (.aload_n 0, 1) := by decide +kernel
theorem dX6_readQuote_35 : decode cX6_readQuote 35 = .ok (.iconst 0, 1) := by decide +kernel
theorem dX6_readQuote_36 : decode cX6_readQuote 36 = .ok (.aload_n 0, 1) := by decide +kernel
theorem dX6_readQuote_37 : decode cX6_readQuote 37 = .ok (.getfield 21, 3) := by decide +kernel
theorem dX6_readQuote_40 : decode cX6_readQuote 40 = .ok (.getfield 80, 3) := by decide +kernel
theorem dX6_readQuote_43 : decode cX6_readQuote 43 = .ok (.iload_n 1, 1) := by decide +kernel
theorem dX6_readQuote_44 : decode cX6_readQuote 44 = .ok (.aaload, 1) := by decide +kernel
theorem dX6_readQuote_45 : decode cX6_readQuote 45 = .ok (.getfield 93, 3) := by decide +kernel
theorem dX6_readQuote_48 : decode cX6_readQuote 48 = .ok (.iconst 1, 1) := by decide +kernel
theorem dX6_readQuote_49 : decode cX6_readQuote 49 = .ok (.isub, 1) := by decide +kernel
theorem dX6_readQuote_50 : decode cX6_readQuote 50 = .ok (.invokevirtual 69, 3) := by decide +kernel
theorem dX6_readQuote_53 : decode cX6_readQuote 53 = .ok (.istore_n 2, 1) := by decide +kernel
theorem dX6_readQuote_54 : decode cX6_readQuote 54 = .ok (.aload_n 0, 1) := by decide +kernel
theorem dX6_readQuote_55 : decode cX6_readQuote 55 = .ok (.iconst 1, 1) := by decide +kernel
theorem dX6_readQuote_56 : decode cX6_readQuote 56 = .ok (.iconst 3, 1) := by decide +kernel
theorem dX6_readQuote_57 : decode cX6_readQuote 57 = .ok (.invokevirtual 69, 3) := by decide +kernel
theorem dX6_readQuote_60 : decode cX6_readQuote 60 = .ok (.istore_n 3, 1) := by decide +kernel
theorem dX6_readQuote_61 : decode cX6_readQuote 61 = .ok (.aload_n 0, 1) := by decide +kernel
theorem dX6_readQuote_62 : decode cX6_readQuote 62 = .ok (.bipush 120, 2) := by decide +kernel
theorem dX6_readQuote_64 : decode cX6_readQuote 64 = .ok (.invokevirtual 66, 3) := by decide +kernel
theorem dX6_readQuote_67 : decode cX6_readQuote 67 = .ok (.aload_n 0, 1) := by decide +kernel
theorem dX6_readQuote_68 : decode cX6_readQuote 68 = .ok (.iconst 1, 1) := by decide +kernel
theorem dX6_readQuote_69 : decode cX6_readQuote 69 = .ok (.bipush 6, 2) := by decide +kernel
theorem dX6_readQuote_71 : decode cX6_readQuote 71 = .ok (.invokevirtual 69, 3) := by decide +kernel
theorem dX6_readQuote_74 : decode cX6_readQuote 74 = .ok (.istore 4, 2) := by decide +kernel
theorem dX6_readQuote_76 : decode cX6_readQuote 76 = .ok (.aload_n 0, 1) := by decide +kernel
theorem dX6_readQuote_77 : decode cX6_readQuote 77 = .ok (.invokevirtual 39, 3) := by decide +kernel
theorem dX6_readQuote_80 : decode cX6_readQuote 80 = .ok (.ifCond .ne 16, 3) := by decide +kernel
theorem dX6_readQuote_83 : decode cX6_readQuote 83 = .ok (.aload_n 0, 1) := by decide +kernel
theorem dX6_readQuote_84 : decode cX6_readQuote 84 = .ok (.getfield 21, 3) := by decide +kernel
theorem dX6_readQuote_87 : decode cX6_readQuote 87 = .ok (.iload_n 1, 1) := by decide +kernel
theorem dX6_readQuote_88 : decode cX6_readQuote 88 = .ok (.iload_n 2, 1) := by decide +kernel
theorem dX6_readQuote_89 : decode cX6_readQuote 89 = .ok (.iload_n 3, 1) := by decide +kernel
theorem dX6_readQuote_90 : decode cX6_readQuote 90 = .ok (.iload 4, 2) := by decide +kernel
theorem dX6_readQuote_92 : decode cX6_readQuote 92 = .ok (.invokevirtual 100, 3) := by decide +kernel
theorem dX6_readQuote_95 : decode cX6_readQuote 95 = .ok (.pop, 1) := by decide +kernel
theorem dX6_readQuote_96 : decode cX6_readQuote 96 = .ok (.return_, 1) := by decide +kernel
theorem dX9_prepare_0 : decode cX9_prepare 0 = .ok (.aload_n 0, 1) := by decide +kernel
theorem dX9_prepare_1 : decode cX9_prepare 1 = .ok (.getfield 12, 3) := by decide +kernel
theorem dX9_prepare_4 : decode cX9_prepare 4 = .ok (.aload_n 1, 1) := by decide +kernel
theorem dX9_prepare_5 : decode cX9_prepare 5 = .ok (.invokevirtual 28, 3) := by decide +kernel
theorem dX9_prepare_8 : decode cX9_prepare 8 = .ok (.aload_n 0, 1) := by decide +kernel
theorem dX9_prepare_9 : decode cX9_prepare 9 = .ok (.iload_n 2, 1) := by decide +kernel
theorem dX9_prepare_10 : decode cX9_prepare 10 = .ok (.putfield 32, 3) := by decide +kernel
theorem dX9_prepare_13 : decode cX9_prepare 13 = .ok (.aload_n 0, 1) := by decide +kernel
theorem dX9_prepare_14 : decode cX9_prepare 14 = .ok (.getfield 12, 3) := by decide +kernel
theorem dX9_prepare_17 : decode cX9_prepare 17 = .ok (.getfield 36, 3) := by decide +kernel
theorem dX9_prepare_20 : decode cX9_prepare 20 = .ok (.aload_n 0, 1) := by decide +kernel
theorem dX9_prepare_21 : decode cX9_prepare 21 = .ok (.getfield 32, 3) := by decide +kernel
theorem dX9_prepare_24 : decode cX9_prepare 24 = .ok (.aaload, 1) := by decide +kernel
theorem dX9_prepare_25 : decode cX9_prepare 25 = .ok (.iconst 0, 1) := by decide +kernel
theorem dX9_prepare_26 : decode cX9_prepare 26 = .ok (.putfield 40, 3) := by decide +kernel
theorem dX9_prepare_29 : decode cX9_prepare 29 = .ok (.aload_n 0, 1) := by decide +kernel
theorem dX9_prepare_30 : decode cX9_prepare 30 = .ok (.getfield 21, 3) := by decide +kernel
theorem dX9_prepare_33 : decode cX9_prepare 33 = .ok (.aload_n 0, 1) := by decide +kernel
theorem dX9_prepare_34 : decode cX9_prepare 34 = .ok (.getfield 12, 3) := by decide +kernel
theorem dX9_prepare_37 : decode cX9_prepare 37 = .ok (.invokevirtual 46, 3) := by decide +kernel
theorem dX9_prepare_40 : decode cX9_prepare 40 = .ok (.return_, 1) := by decide +kernel
theorem dX9_isBadlyDistant_0 : decode cX9_isBadlyDistant 0 = .ok (.aload_n 0, 1) := by decide +kernel
theorem dX9_isBadlyDistant_1 : decode cX9_isBadlyDistant 1 = .ok (.getfield 25, 3) := by decide +kernel
theorem dX9_isBadlyDistant_4 : decode cX9_isBadlyDistant 4 = .ok (.aload_n 0, 1) := by decide +kernel
theorem dX9_isBadlyDistant_5 : decode cX9_isBadlyDistant 5 = .ok (.getfield 12, 3) := by decide +kernel
theorem dX9_isBadlyDistant_8 : decode cX9_isBadlyDistant 8 = .ok (.aload_n 1, 1) := by decide +kernel
theorem dX9_isBadlyDistant_9 : decode cX9_isBadlyDistant 9 = .ok (.invokevirtual 109, 3) := by decide +kernel
theorem dX9_isBadlyDistant_12 : decode cX9_isBadlyDistant 12 = .ok (.istore_n 2, 1) := by decide +kernel
theorem dX9_isBadlyDistant_13 : decode cX9_isBadlyDistant 13 = .ok (.iload_n 2, 1) := by decide +kernel
theorem dX9_isBadlyDistant_14 : decode cX9_isBadlyDistant 14 = .ok (.bipush (-99), 2) := by decide +kernel
theorem dX9_isBadlyDistant_16 : decode cX9_isBadlyDistant 16 = .ok (.if_icmp .eq 32, 3) := by decide +kernel
theorem dX9_isBadlyDistant_19 : decode cX9_isBadlyDistant 19 = .ok (.iload_n 2, 1) := by decide +kernel
theorem dX9_isBadlyDistant_20 : decode cX9_isBadlyDistant 20 = .ok (.aload_n 0, 1) := by decide +kernel
theorem dX9_isBadlyDistant_21 : decode cX9_isBadlyDistant 21 = .ok (.getfield 12, 3) := by decide +kernel
theorem dX9_isBadlyDistant_24 : decode cX9_isBadlyDistant 24 = .ok (.getfield 82, 3) := by decide +kernel
theorem dX9_isBadlyDistant_27 : decode cX9_isBadlyDistant 27 = .ok (.iconst 0, 1) := by decide +kernel
theorem dX9_isBadlyDistant_28 : decode cX9_isBadlyDistant 28 = .ok (.iaload, 1) := by decide +kernel
theorem dX9_isBadlyDistant_29 : decode cX9_isBadlyDistant 29 = .ok (.aload_n 0, 1) := by decide +kernel
theorem dX9_isBadlyDistant_30 : decode cX9_isBadlyDistant 30 = .ok (.getfield 12, 3) := by decide +kernel
theorem dX9_isBadlyDistant_33 : decode cX9_isBadlyDistant 33 = .ok (.getfield 82, 3) := by decide +kernel
theorem dX9_isBadlyDistant_36 : decode cX9_isBadlyDistant 36 = .ok (.iconst 1, 1) := by decide +kernel
theorem dX9_isBadlyDistant_37 : decode cX9_isBadlyDistant 37 = .ok (.iaload, 1) := by decide +kernel
theorem dX9_isBadlyDistant_38 : decode cX9_isBadlyDistant 38 = .ok (.invokestatic 113, 3) := by decide +kernel
theorem dX9_isBadlyDistant_41 : decode cX9_isBadlyDistant 41 = .ok (.ifCond .ne 7, 3) := by decide +kernel
theorem dX9_isBadlyDistant_44 : decode cX9_isBadlyDistant 44 = .ok (.iconst 1, 1) := by decide +kernel
theorem dX9_isBadlyDistant_45 : decode cX9_isBadlyDistant 45 = .ok (.goto 4, 3) := by decide +kernel
theorem dX9_isBadlyDistant_48 : decode cX9_isBadlyDistant 48 = .ok (.iconst 0, 1) := by decide +kernel
theorem dX9_isBadlyDistant_49 : decode cX9_isBadlyDistant 49 = .ok (.ireturn, 1) := by decide +kernel
theorem dX9_greatestLength_0 : decode cX9_greatestLength 0 = .ok (.aload_n 0, 1) := by decide +kernel
theorem dX9_greatestLength_1 : decode cX9_greatestLength 1 = .ok (.getfield 12, 3) := by decide +kernel
theorem dX9_greatestLength_4 : decode cX9_greatestLength 4 = .ok (.aload_n 1, 1) := by decide +kernel
theorem dX9_greatestLength_5 : decode cX9_greatestLength 5 = .ok (.invokevirtual 28, 3) := by decide +kernel
theorem dX9_greatestLength_8 : decode cX9_greatestLength 8 = .ok (.aload_n 0, 1) := by decide +kernel
theorem dX9_greatestLength_9 : decode cX9_greatestLength 9 = .ok (.getfield 21, 3) := by decide +kernel
theorem dX9_greatestLength_12 : decode cX9_greatestLength 12 = .ok (.aload_n 0, 1) := by decide +kernel
theorem dX9_greatestLength_13 : decode cX9_greatestLength 13 = .ok (.getfield 12, 3) := by decide +kernel
theorem dX9_greatestLength_16 : decode cX9_greatestLength 16 = .ok (.invokevirtual 46, 3) := by decide +kernel
theorem dX9_greatestLength_19 : decode cX9_greatestLength 19 = .ok (.aload_n 0, 1) := by decide +kernel
theorem dX9_greatestLength_20 : decode cX9_greatestLength 20 = .ok (.getfield 12, 3) := by decide +kernel
theorem dX9_greatestLength_23 : decode cX9_greatestLength 23 = .ok (.getfield 138, 3) := by decide +kernel
theorem dX9_greatestLength_26 : decode cX9_greatestLength 26 = .ok (.iload_n 2, 1) := by decide +kernel
theorem dX9_greatestLength_27 : decode cX9_greatestLength 27 = .ok (.aaload, 1) := by decide +kernel
theorem dX9_greatestLength_28 : decode cX9_greatestLength 28 = .ok (.astore_n 3, 1) := by decide +kernel
theorem dX9_greatestLength_29 : decode cX9_greatestLength 29 = .ok (.aload_n 3, 1) := by decide +kernel
theorem dX9_greatestLength_30 : decode cX9_greatestLength 30 = .ok (.getfield 142, 3) := by decide +kernel
theorem dX9_greatestLength_33 : decode cX9_greatestLength 33 = .ok (.istore 4, 2) := by decide +kernel
theorem dX9_greatestLength_35 : decode cX9_greatestLength 35 = .ok (.sipush 201, 3) := by decide +kernel
theorem dX9_greatestLength_38 : decode cX9_greatestLength 38 = .ok (.istore 5, 2) := by decide +kernel
theorem dX9_greatestLength_40 : decode cX9_greatestLength 40 = .ok (.iconst 0, 1) := by decide +kernel
theorem dX9_greatestLength_41 : decode cX9_greatestLength 41 = .ok (.istore 6, 2) := by decide +kernel
theorem dX9_greatestLength_43 : decode cX9_greatestLength 43 = .ok (.iload 6, 2) := by decide +kernel
theorem dX9_greatestLength_45 : decode cX9_greatestLength 45 = .ok (.sipush 200, 3) := by decide +kernel
theorem dX9_greatestLength_48 : decode cX9_greatestLength 48 = .ok (.if_icmp .ge 69, 3) := by decide +kernel
theorem dX9_greatestLength_51 : decode cX9_greatestLength 51 = .ok (.iload 5, 2) := by decide +kernel
theorem dX9_greatestLength_53 : decode cX9_greatestLength 53 = .ok (.iload 4, 2) := by decide +kernel
theorem dX9_greatestLength_55 : decode cX9_greatestLength 55 = .ok (.isub, 1) := by decide +kernel
theorem dX9_greatestLength_56 : decode cX9_greatestLength 56 = .ok (.iconst 1, 1) := by decide +kernel
theorem dX9_greatestLength_57 : decode cX9_greatestLength 57 = .ok (.if_icmp .le 60, 3) := by decide +kernel
theorem dX9_greatestLength_60 : decode cX9_greatestLength 60 = .ok (.iload 4, 2) := by decide +kernel
theorem dX9_greatestLength_62 : decode cX9_greatestLength 62 = .ok (.iload 5, 2) := by decide +kernel
theorem dX9_greatestLength_64 : decode cX9_greatestLength 64 = .ok (.iadd, 1) := by decide +kernel
theorem dX9_greatestLength_65 : decode cX9_greatestLength 65 = .ok (.iconst 2, 1) := by decide +kernel
theorem dX9_greatestLength_66 : decode cX9_greatestLength 66 = .ok (.idiv, 1) := by decide +kernel
theorem dX9_greatestLength_67 : decode cX9_greatestLength 67 = .ok (.istore 7, 2) := by decide +kernel
theorem dX9_greatestLength_69 : decode cX9_greatestLength 69 = .ok (.aload_n 3, 1) := by decide +kernel
theorem dX9_greatestLength_70 : decode cX9_greatestLength 70 = .ok (.iload 7, 2) := by decide +kernel
theorem dX9_greatestLength_72 : decode cX9_greatestLength 72 = .ok (.putfield 142, 3) := by decide +kernel
theorem dX9_greatestLength_75 : decode cX9_greatestLength 75 = .ok (.aload_n 0, 1) := by decide +kernel
theorem dX9_greatestLength_76 : decode cX9_greatestLength 76 = .ok (.getfield 25, 3) := by decide +kernel
theorem dX9_greatestLength_79 : decode cX9_greatestLength 79 = .ok (.aload_n 0, 1) := by decide +kernel
theorem dX9_greatestLength_80 : decode cX9_greatestLength 80 = .ok (.getfield 12, 3) := by decide +kernel
theorem dX9_greatestLength_83 : decode cX9_greatestLength 83 = .ok (.invokevirtual 46, 3) := by decide +kernel
theorem dX9_greatestLength_86 : decode cX9_greatestLength 86 = .ok (.aload_n 0, 1) := by decide +kernel
theorem dX9_greatestLength_87 : decode cX9_greatestLength 87 = .ok (.getfield 25, 3) := by decide +kernel
theorem dX9_greatestLength_90 : decode cX9_greatestLength 90 = .ok (.aload_n 0, 1) := by decide +kernel
theorem dX9_greatestLength_91 : decode cX9_greatestLength 91 = .ok (.getfield 21, 3) := by decide +kernel
theorem dX9_greatestLength_94 : decode cX9_greatestLength 94 = .ok (.invokevirtual 86, 3) := by decide +kernel
theorem dX9_greatestLength_97 : decode cX9_greatestLength 97 = .ok (.ifCond .eq 10, 3) := by decide +kernel
theorem dX9_greatestLength_100 : decode cX9_greatestLength 100 = .ok (.iload 7, 2) := by decide +kernel
theorem dX9_greatestLength_102 : decode cX9_greatestLength 102 = .ok (.istore 5, 2) := by decide +kernel
theorem dX9_greatestLength_104 : decode cX9_greatestLength 104 = .ok (.goto 7, 3) := by decide +kernel
theorem dX9_greatestLength_107 : decode cX9_greatestLength 107 = .ok (.iload 7, 2) := by decide +kernel
theorem dX9_greatestLength_109 : decode cX9_greatestLength 109 = .ok (.istore 4, 2) := by decide +kernel
theorem dX9_greatestLength_111 : decode cX9_greatestLength 111 = .ok (.iinc 6 1, 3) := by decide +kernel
theorem dX9_greatestLength_114 : decode cX9_greatestLength 114 = .ok (.goto (-71), 3) := by decide +kernel
theorem dX9_greatestLength_117 : decode cX9_greatestLength 117 = .ok (.iload 4, 2) := by decide +kernel
theorem dX9_greatestLength_119 : decode cX9_greatestLength 119 = .ok (.ireturn, 1) := by decide +kernel
theorem dX10_currentLayout_0 : decode cX10_currentLayout 0 = .ok (.aload_n 0, 1) := by decide +kernel
theorem dX10_currentLayout_1 : decode cX10_currentLayout 1 = .ok (.getfield 49, 3) := by decide +kernel
theorem dX10_currentLayout_4 : decode cX10_currentLayout 4 = .ok (.ifCond .eq 22, 3) := by decide +kernel
theorem dX10_currentLayout_7 : decode cX10_currentLayout 7 = .ok (.aload_n 0, 1) := by decide +kernel
theorem dX10_currentLayout_8 : decode cX10_currentLayout 8 = .ok (.getfield 45, 3) := by decide +kernel
theorem dX10_currentLayout_11 : decode cX10_currentLayout 11 = .ok (.aload_n 0, 1) := by decide +kernel
theorem dX10_currentLayout_12 : decode cX10_currentLayout 12 = .ok (.getfield 12, 3) := by decide +kernel
theorem dX10_currentLayout_15 : decode cX10_currentLayout 15 = .ok (.getfield 53, 3) := by decide +kernel
theorem dX10_currentLayout_18 : decode cX10_currentLayout 18 = .ok (.invokevirtual 289, 3) := by decide +kernel
theorem dX10_currentLayout_21 : decode cX10_currentLayout 21 = .ok (.aload_n 0, 1) := by decide +kernel
theorem dX10_currentLayout_22 : decode cX10_currentLayout 22 = .ok (.iconst 0, 1) := by decide +kernel
theorem dX10_currentLayout_23 : decode cX10_currentLayout 23 = .ok (.putfield 49, 3) := by decide +kernel
theorem dX10_currentLayout_26 : decode cX10_currentLayout 26 = .ok (.aload_n 0, 1) := by decide +kernel
theorem dX10_currentLayout_27 : decode cX10_currentLayout 27 = .ok (.getfield 45, 3) := by decide +kernel
theorem dX10_currentLayout_30 : decode cX10_currentLayout 30 = .ok (.areturn, 1) := by decide +kernel
theorem dX11_noteOver_0 : decode cX11_noteOver 0 = .ok (.aload_n 0, 1) := by decide +kernel
theorem dX11_noteOver_1 : decode cX11_noteOver 1 = .ok (.invokevirtual 69, 3) := by decide +kernel
theorem dX11_noteOver_4 : decode cX11_noteOver 4 = .ok (.iconst 0, 1) := by decide +kernel
theorem dX11_noteOver_5 : decode cX11_noteOver 5 = .ok (.istore_n 1, 1) := by decide +kernel
theorem dX11_noteOver_6 : decode cX11_noteOver 6 = .ok (.iload_n 1, 1) := by decide +kernel
theorem dX11_noteOver_7 : decode cX11_noteOver 7 = .ok (.aload_n 0, 1) := by decide +kernel
theorem dX11_noteOver_8 : decode cX11_noteOver 8 = .ok (.getfield 7, 3) := by decide +kernel
theorem dX11_noteOver_11 : decode cX11_noteOver 11 = .ok (.iconst 0, 1) := by decide +kernel
theorem dX11_noteOver_12 : decode cX11_noteOver 12 = .ok (.iaload, 1) := by decide +kernel
theorem dX11_noteOver_13 : decode cX11_noteOver 13 = .ok (.if_icmp .ge 21, 3) := by decide +kernel
theorem dX11_noteOver_16 : decode cX11_noteOver 16 = .ok (.aload_n 0, 1) := by decide +kernel
theorem dX11_noteOver_17 : decode cX11_noteOver 17 = .ok (.getfield 34, 3) := by decide +kernel
theorem dX11_noteOver_20 : decode cX11_noteOver 20 = .ok (.iload_n 1, 1) := by decide +kernel
theorem dX11_noteOver_21 : decode cX11_noteOver 21 = .ok (.aload_n 0, 1) := by decide +kernel
theorem dX11_noteOver_22 : decode cX11_noteOver 22 = .ok (.getfield 28, 3) := by decide +kernel
theorem dX11_noteOver_25 : decode cX11_noteOver 25 = .ok (.iload_n 1, 1) := by decide +kernel
theorem dX11_noteOver_26 : decode cX11_noteOver 26 = .ok (.iaload, 1) := by decide +kernel
theorem dX11_noteOver_27 : decode cX11_noteOver 27 = .ok (.iastore, 1) := by decide +kernel
theorem dX11_noteOver_28 : decode cX11_noteOver 28 = .ok (.iinc 1 1, 3) := by decide +kernel
theorem dX11_noteOver_31 : decode cX11_noteOver 31 = .ok (.goto (-25), 3) := by decide +kernel
theorem dX11_noteOver_34 : decode cX11_noteOver 34 = .ok (.return_, 1) := by decide +kernel
theorem dX11_fromSentence_0 : decode cX11_fromSentence 0 = .ok (.aload_n 0, 1) := by decide +kernel
theorem dX11_fromSentence_1 : decode cX11_fromSentence 1 = .ok (.iload_n 1, 1) := by decide +kernel
theorem dX11_fromSentence_2 : decode cX11_fromSentence 2 = .ok (.invokevirtual 79, 3) := by decide +kernel
theorem dX11_fromSentence_5 : decode cX11_fromSentence 5 = .ok (.istore_n 2, 1) := by decide +kernel
theorem dX11_fromSentence_6 : decode cX11_fromSentence 6 = .ok (.iload_n 2, 1) := by decide +kernel
theorem dX11_fromSentence_7 : decode cX11_fromSentence 7 = .ok (.bipush (-99), 2) := by decide +kernel
theorem dX11_fromSentence_9 : decode cX11_fromSentence 9 = .ok (.if_icmp .eq 16, 3) := by decide +kernel
theorem dX11_fromSentence_12 : decode cX11_fromSentence 12 = .ok (.iload_n 2, 1) := by decide +kernel
theorem dX11_fromSentence_13 : decode cX11_fromSentence 13 = .ok (.bipush 120, 2) := by decide +kernel
theorem dX11_fromSentence_15 : decode cX11_fromSentence 15 = .ok (.idiv, 1) := by decide +kernel
theorem dX11_fromSentence_16 : decode cX11_fromSentence 16 = .ok (.aload_n 0, 1) := by decide +kernel
theorem dX11_fromSentence_17 : decode cX11_fromSentence 17 = .ok (.iload_n 1, 1) := by decide +kernel
theorem dX11_fromSentence_18 : decode cX11_fromSentence 18 = .ok (.iconst 5, 1) := by decide +kernel
theorem dX11_fromSentence_19 : decode cX11_fromSentence 19 = .ok (.invokevirtual 56, 3) := by decide +kernel
theorem dX11_fromSentence_22 : decode cX11_fromSentence 22 = .ok (.if_icmp .eq 8, 3) := by decide +kernel
theorem dX11_fromSentence_25 : decode cX11_fromSentence 25 = .ok (.bipush (-99), 2) := by decide +kernel
theorem dX11_fromSentence_27 : decode cX11_fromSentence 27 = .ok (.goto 9, 3) := by decide +kernel
theorem dX11_fromSentence_30 : decode cX11_fromSentence 30 = .ok (.aload_n 0, 1) := by decide +kernel
theorem dX11_fromSentence_31 : decode cX11_fromSentence 31 = .ok (.iload_n 1, 1) := by decide +kernel
theorem dX11_fromSentence_32 : decode cX11_fromSentence 32 = .ok (.iload_n 2, 1) := by decide +kernel
theorem dX11_fromSentence_33 : decode cX11_fromSentence 33 = .ok (.invokevirtual 83, 3) := by decide +kernel
theorem dX11_fromSentence_36 : decode cX11_fromSentence 36 = .ok (.ireturn, 1) := by decide +kernel
theorem dX11_unrest_0 : decode cX11_unrest 0 = .ok (.aload_n 0, 1) := by decide +kernel
theorem dX11_unrest_1 : decode cX11_unrest 1 = .ok (.iconst 0, 1) := by decide +kernel
theorem dX11_unrest_2 : decode cX11_unrest 2 = .ok (.invokevirtual 92, 3) := by decide +kernel
theorem dX11_unrest_5 : decode cX11_unrest 5 = .ok (.aload_n 0, 1) := by decide +kernel
theorem dX11_unrest_6 : decode cX11_unrest 6 = .ok (.iconst 1, 1) := by decide +kernel
theorem dX11_unrest_7 : decode cX11_unrest 7 = .ok (.invokevirtual 92, 3) := by decide +kernel
theorem dX11_unrest_10 : decode cX11_unrest 10 = .ok (.iadd, 1) := by decide +kernel
theorem dX11_unrest_11 : decode cX11_unrest 11 = .ok (.aload_n 0, 1) := by decide +kernel
theorem dX11_unrest_12 : decode cX11_unrest 12 = .ok (.iconst 2, 1) := by decide +kernel
theorem dX11_unrest_13 : decode cX11_unrest 13 = .ok (.invokevirtual 92, 3) := by decide +kernel
theorem dX11_unrest_16 : decode cX11_unrest 16 = .ok (.iadd, 1) := by decide +kernel
theorem dX11_unrest_17 : decode cX11_unrest 17 = .ok (.ireturn, 1) := by decide +kernel
theorem dX11_isNear_0 : decode cX11_isNear 0 = .ok (.iconst 0, 1) := by decide +kernel
theorem dX11_isNear_1 : decode cX11_isNear 1 = .ok (.istore_n 2, 1) := by decide +kernel
theorem dX11_isNear_2 : decode cX11_isNear 2 = .ok (.iconst 0, 1) := by decide +kernel
theorem dX11_isNear_3 : decode cX11_isNear 3 = .ok (.istore_n 3, 1) := by decide +kernel
theorem dX11_isNear_4 : decode cX11_isNear 4 = .ok (.iload_n 3, 1) := by decide +kernel
theorem dX11_isNear_5 : decode cX11_isNear 5 = .ok (.aload_n 0, 1) := by decide +kernel
theorem dX11_isNear_6 : decode cX11_isNear 6 = .ok (.getfield 7, 3) := by decide +kernel
theorem dX11_isNear_9 : decode cX11_isNear 9 = .ok (.iconst 1, 1) := by decide +kernel
theorem dX11_isNear_10 : decode cX11_isNear 10 = .ok (.iaload, 1) := by decide +kernel
theorem dX11_isNear_11 : decode cX11_isNear 11 = .ok (.if_icmp .ge 62, 3) := by decide +kernel
theorem dX11_isNear_14 : decode cX11_isNear 14 = .ok (.iload_n 2, 1) := by decide +kernel
theorem dX11_isNear_15 : decode cX11_isNear 15 = .ok (.ifCond .ne 46, 3) := by decide +kernel
theorem dX11_isNear_18 : decode cX11_isNear 18 = .ok (.iload_n 3, 1) := by decide +kernel
theorem dX11_isNear_19 : decode cX11_isNear 19 = .ok (.iload_n 1, 1) := by decide +kernel
theorem dX11_isNear_20 : decode cX11_isNear 20 = .ok (.if_icmp .eq 45, 3) := by decide +kernel
theorem dX11_isNear_23 : decode cX11_isNear 23 = .ok (.aload_n 0, 1) := by decide +kernel
theorem dX11_isNear_24 : decode cX11_isNear 24 = .ok (.iload_n 3, 1) := by decide +kernel
theorem dX11_isNear_25 : decode cX11_isNear 25 = .ok (.invokevirtual 59, 3) := by decide +kernel
theorem dX11_isNear_28 : decode cX11_isNear 28 = .ok (.ifCond .eq 37, 3) := by decide +kernel
theorem dX11_isNear_31 : decode cX11_isNear 31 = .ok (.aload_n 0, 1) := by decide +kernel
theorem dX11_isNear_32 : decode cX11_isNear 32 = .ok (.iload_n 3, 1) := by decide +kernel
theorem dX11_isNear_33 : decode cX11_isNear 33 = .ok (.iconst 5, 1) := by decide +kernel
theorem dX11_isNear_34 : decode cX11_isNear 34 = .ok (.invokevirtual 56, 3) := by decide +kernel
theorem dX11_isNear_37 : decode cX11_isNear 37 = .ok (.aload_n 0, 1) := by decide +kernel
theorem dX11_isNear_38 : decode cX11_isNear 38 = .ok (.iload_n 1, 1) := by decide +kernel
theorem dX11_isNear_39 : decode cX11_isNear 39 = .ok (.iconst 5, 1) := by decide +kernel
theorem dX11_isNear_40 : decode cX11_isNear 40 = .ok (.invokevirtual 56, 3) := by decide +kernel
theorem dX11_isNear_43 : decode cX11_isNear 43 = .ok (.if_icmp .ne 22, 3) := by decide +kernel
theorem dX11_isNear_46 : decode cX11_isNear 46 = .ok (.aload_n 0, 1) := by decide +kernel
theorem dX11_isNear_47 : decode cX11_isNear 47 = .ok (.iload_n 1, 1) := by decide +kernel
theorem dX11_isNear_48 : decode cX11_isNear 48 = .ok (.iload_n 3, 1) := by decide +kernel
theorem dX11_isNear_49 : decode cX11_isNear 49 = .ok (.invokevirtual 99, 3) := by decide +kernel
theorem dX11_isNear_52 : decode cX11_isNear 52 = .ok (.aload_n 0, 1) := by decide +kernel
theorem dX11_isNear_53 : decode cX11_isNear 53 = .ok (.getfield 7, 3) := by decide +kernel
theorem dX11_isNear_56 : decode cX11_isNear 56 = .ok (.iconst 4, 1) := by decide +kernel
theorem dX11_isNear_57 : decode cX11_isNear 57 = .ok (.iaload, 1) := by decide +kernel
theorem dX11_isNear_58 : decode cX11_isNear 58 = .ok (.if_icmp .ge 7, 3) := by decide +kernel
theorem dX11_isNear_61 : decode cX11_isNear 61 = .ok (.iconst 1, 1) := by decide +kernel
theorem dX11_isNear_62 : decode cX11_isNear 62 = .ok (.goto 4, 3) := by decide +kernel
theorem dX11_isNear_65 : decode cX11_isNear 65 = .ok (.iconst 0, 1) := by decide +kernel
theorem dX11_isNear_66 : decode cX11_isNear 66 = .ok (.istore_n 2, 1) := by decide +kernel
theorem dX11_isNear_67 : decode cX11_isNear 67 = .ok (.iinc 3 1, 3) := by decide +kernel
theorem dX11_isNear_70 : decode cX11_isNear 70 = .ok (.goto (-66), 3) := by decide +kernel
theorem dX11_isNear_73 : decode cX11_isNear 73 = .ok (.iload_n 2, 1) := by decide +kernel
theorem dX11_isNear_74 : decode cX11_isNear 74 = .ok (.ireturn, 1) := by decide +kernel
theorem dX11_addQuote_0 : decode cX11_addQuote 0 = .ok (.aload_n 0, 1) := by decide +kernel
theorem dX11_addQuote_1 : decode cX11_addQuote 1 = .ok (.iconst 0, 1) := by decide +kernel
theorem dX11_addQuote_2 : decode cX11_addQuote 2 = .ok (.putfield 37, 3) := by decide +kernel
theorem dX11_addQuote_5 : decode cX11_addQuote 5 = .ok (.aload_n 0, 1) := by decide +kernel
theorem dX11_addQuote_6 : decode cX11_addQuote 6 = .ok (.iload_n 1, 1) := by decide +kernel
theorem dX11_addQuote_7 : decode cX11_addQuote 7 = .ok (.iload_n 2, 1) := by decide +kernel
theorem dX11_addQuote_8 : decode cX11_addQuote 8 = .ok (.invokevirtual 170, 3) := by decide +kernel
theorem dX11_addQuote_11 : decode cX11_addQuote 11 = .ok (.ifCond .eq 23, 3) := by decide +kernel
theorem dX11_addQuote_14 : decode cX11_addQuote 14 = .ok (.iload_n 3, 1) := by decide +kernel
theorem dX11_addQuote_15 : decode cX11_addQuote 15 = .ok (.iconst 1, 1) := by decide +kernel
theorem dX11_addQuote_16 : decode cX11_addQuote 16 = .ok (.iconst 3, 1) := by decide +kernel
theorem dX11_addQuote_17 : decode cX11_addQuote 17 = .ok (.invokestatic 44, 3) := by decide +kernel
theorem dX11_addQuote_20 : decode cX11_addQuote 20 = .ok (.ifCond .eq 14, 3) := by decide +kernel
theorem dX11_addQuote_23 : decode cX11_addQuote 23 = .ok (.iload 4, 2) := by decide +kernel
theorem dX11_addQuote_25 : decode cX11_addQuote 25 = .ok (.iconst 1, 1) := by decide +kernel
theorem dX11_addQuote_26 : decode cX11_addQuote 26 = .ok (.bipush 6, 2) := by decide +kernel
theorem dX11_addQuote_28 : decode cX11_addQuote 28 = .ok (.invokestatic 44, 3) := by decide +kernel
theorem dX11_addQuote_31 : decode cX11_addQuote 31 = .ok (.ifCond .ne 5, 3) := by decide +kernel
theorem dX11_addQuote_34 : decode cX11_addQuote 34 = .ok (.iconst (-1), 1) := by decide +kernel
theorem dX11_addQuote_35 : decode cX11_addQuote 35 = .ok (.ireturn, 1) := by decide +kernel
theorem dX11_addQuote_36 : decode cX11_addQuote 36 = .ok (.aload_n 0, 1) := by decide +kernel
theorem dX11_addQuote_37 : decode cX11_addQuote 37 = .ok (.getfield 7, 3) := by decide +kernel
theorem dX11_addQuote_40 : decode cX11_addQuote 40 = .ok (.iconst 1, 1) := by decide +kernel
theorem dX11_addQuote_41 : decode cX11_addQuote 41 = .ok (.iaload, 1) := by decide +kernel
theorem dX11_addQuote_42 : decode cX11_addQuote 42 = .ok (.bipush 8, 2) := by decide +kernel
theorem dX11_addQuote_44 : decode cX11_addQuote 44 = .ok (.if_icmp .ne 6, 3) := by decide +kernel
theorem dX11_addQuote_47 : decode cX11_addQuote 47 = .ok (.bipush (-3), 2) := by decide +kernel
theorem dX11_addQuote_49 : decode cX11_addQuote 49 = .ok (.ireturn, 1) := by decide +kernel
theorem dX11_addQuote_50 : decode cX11_addQuote 50 = .ok (.aload_n 0, 1) := by decide +kernel
theorem dX11_addQuote_51 : decode cX11_addQuote 51 = .ok (.invokevirtual 154, 3) := by decide +kernel
theorem dX11_addQuote_54 : decode cX11_addQuote 54 = .ok (.aload_n 0, 1) := by decide +kernel
theorem dX11_addQuote_55 : decode cX11_addQuote 55 = .ok (.iload_n 1, 1) := by decide +kernel
theorem dX11_addQuote_56 : decode cX11_addQuote 56 = .ok (.iload_n 2, 1) := by decide +kernel
theorem dX11_addQuote_57 : decode cX11_addQuote 57 = .ok (.iload_n 3, 1) := by decide +kernel
theorem dX11_addQuote_58 : decode cX11_addQuote 58 = .ok (.iload 4, 2) := by decide +kernel
theorem dX11_addQuote_60 : decode cX11_addQuote 60 = .ok (.invokevirtual 173, 3) := by decide +kernel
theorem dX11_addQuote_63 : decode cX11_addQuote 63 = .ok (.aload_n 0, 1) := by decide +kernel
theorem dX11_addQuote_64 : decode cX11_addQuote 64 = .ok (.getfield 7, 3) := by decide +kernel
theorem dX11_addQuote_67 : decode cX11_addQuote 67 = .ok (.iconst 1, 1) := by decide +kernel
theorem dX11_addQuote_68 : decode cX11_addQuote 68 = .ok (.iaload, 1) := by decide +kernel
theorem dX11_addQuote_69 : decode cX11_addQuote 69 = .ok (.iconst 1, 1) := by decide +kernel
theorem dX11_addQuote_70 : decode cX11_addQuote 70 = .ok (.isub, 1) := by decide +kernel
theorem dX11_addQuote_71 : decode cX11_addQuote 71 = .ok (.ireturn, 1) := by decide +kernel
theorem dX11_readsArticle_0 : decode cX11_readsArticle 0 = .ok (.aload_n 0, 1) := by decide +kernel
theorem dX11_readsArticle_1 : decode cX11_readsArticle 1 = .ok (.iconst 0, 1) := by decide +kernel
theorem dX11_readsArticle_2 : decode cX11_readsArticle 2 = .ok (.sipush 359, 3) := by decide +kernel
theorem dX11_readsArticle_5 : decode cX11_readsArticle 5 = .ok (.invokevirtual 204, 3) := by decide +kernel
theorem dX11_readsArticle_8 : decode cX11_readsArticle 8 = .ok (.ifCond .ne 5, 3) := by decide +kernel
theorem dX11_readsArticle_11 : decode cX11_readsArticle 11 = .ok (.iconst 0, 1) := by decide +kernel
theorem dX11_readsArticle_12 : decode cX11_readsArticle 12 = .ok (.ireturn, 1) := by decide +kernel
theorem dX11_readsArticle_13 : decode cX11_readsArticle 13 = .ok (.aload_n 0, 1) := by decide +kernel
theorem dX11_readsArticle_14 : decode cX11_readsArticle 14 = .ok (.getfield 201, 3) := by decide +kernel
theorem dX11_readsArticle_17 : decode cX11_readsArticle 17 = .ok (.istore_n 1, 1) := by decide +kernel
theorem dX11_readsArticle_18 : decode cX11_readsArticle 18 = .ok (.aload_n 0, 1) := by decide +kernel
theorem dX11_readsArticle_19 : decode cX11_readsArticle 19 = .ok (.iconst 1, 1) := by decide +kernel
theorem dX11_readsArticle_20 : decode cX11_readsArticle 20 = .ok (.sipush 200, 3) := by decide +kernel
theorem dX11_readsArticle_23 : decode cX11_readsArticle 23 = .ok (.invokevirtual 204, 3) := by decide +kernel
theorem dX11_readsArticle_26 : decode cX11_readsArticle 26 = .ok (.ifCond .ne 5, 3) := by decide +kernel
theorem dX11_readsArticle_29 : decode cX11_readsArticle 29 = .ok (.iconst 0, 1) := by decide +kernel
theorem dX11_readsArticle_30 : decode cX11_readsArticle 30 = .ok (.ireturn, 1) := by decide +kernel
theorem dX11_readsArticle_31 : decode cX11_readsArticle 31 = .ok (.aload_n 0, 1) := by decide +kernel
theorem dX11_readsArticle_32 : decode cX11_readsArticle 32 = .ok (.iload_n 1, 1) := by decide +kernel
theorem dX11_readsArticle_33 : decode cX11_readsArticle 33 = .ok (.aload_n 0, 1) := by decide +kernel
theorem dX11_readsArticle_34 : decode cX11_readsArticle 34 = .ok (.getfield 201, 3) := by decide +kernel
theorem dX11_readsArticle_37 : decode cX11_readsArticle 37 = .ok (.invokevirtual 157, 3) := by decide +kernel
theorem dX11_readsArticle_40 : decode cX11_readsArticle 40 = .ok (.aload_n 0, 1) := by decide +kernel
theorem dX11_readsArticle_41 : decode cX11_readsArticle 41 = .ok (.bipush 58, 2) := by decide +kernel
theorem dX11_readsArticle_43 : decode cX11_readsArticle 43 = .ok (.invokevirtual 207, 3) := by decide +kernel
theorem dX11_readsArticle_46 : decode cX11_readsArticle 46 = .ok (.ifCond .eq 18, 3) := by decide +kernel
theorem dX11_readsArticle_49 : decode cX11_readsArticle 49 = .ok (.aload_n 0, 1) := by decide +kernel
theorem dX11_readsArticle_50 : decode cX11_readsArticle 50 = .ok (.aload_n 0, 1) := by decide +kernel
theorem dX11_readsArticle_51 : decode cX11_readsArticle 51 = .ok (.getfield 7, 3) := by decide +kernel
theorem dX11_readsArticle_54 : decode cX11_readsArticle 54 = .ok (.iconst 0, 1) := by decide +kernel
theorem dX11_readsArticle_55 : decode cX11_readsArticle 55 = .ok (.iaload, 1) := by decide +kernel
theorem dX11_readsArticle_56 : decode cX11_readsArticle 56 = .ok (.iconst 1, 1) := by decide +kernel
theorem dX11_readsArticle_57 : decode cX11_readsArticle 57 = .ok (.isub, 1) := by decide +kernel
theorem dX11_readsArticle_58 : decode cX11_readsArticle 58 = .ok (.invokevirtual 210, 3) := by decide +kernel
theorem dX11_readsArticle_61 : decode cX11_readsArticle 61 = .ok (.goto 9, 3) := by decide +kernel
theorem dX11_readsArticle_64 : decode cX11_readsArticle 64 = .ok (.aload_n 0, 1) := by decide +kernel
theorem dX11_readsArticle_65 : decode cX11_readsArticle 65 = .ok (.bipush 59, 2) := by decide +kernel
theorem dX11_readsArticle_67 : decode cX11_readsArticle 67 = .ok (.invokevirtual 207, 3) := by decide +kernel
theorem dX11_readsArticle_70 : decode cX11_readsArticle 70 = .ok (.ireturn, 1) := by decide +kernel
theorem dX11_readsQuote_0 : decode cX11_readsQuote 0 = .ok (.aload_n 0, 1) := by decide +kernel
theorem dX11_readsQuote_1 : decode cX11_readsQuote 1 = .ok (.iconst 0, 1) := by decide +kernel
theorem dX11_readsQuote_2 : decode cX11_readsQuote 2 = .ok (.aload_n 0, 1) := by decide +kernel
theorem dX11_readsQuote_3 : decode cX11_readsQuote 3 = .ok (.getfield 7, 3) := by decide +kernel
theorem dX11_readsQuote_6 : decode cX11_readsQuote 6 = .ok (.iconst 0, 1) := by decide +kernel
theorem dX11_readsQuote_7 : decode cX11_readsQuote 7 = .ok (.iaload, 1) := by decide +kernel
theorem dX11_readsQuote_8 : decode cX11_readsQuote 8 = .ok (.iconst 1, 1) := by decide +kernel
theorem dX11_readsQuote_9 : decode cX11_readsQuote 9 = .ok (.isub, 1) := by decide +kernel
theorem dX11_readsQuote_10 : decode cX11_readsQuote 10 = .ok (.invokevirtual 204, 3) := by decide +kernel
theorem dX11_readsQuote_13 : decode cX11_readsQuote 13 = .ok (.ifCond .ne 5, 3) := by decide +kernel
theorem dX11_readsQuote_16 : decode cX11_readsQuote 16 = .ok (.iconst 0, 1) := by decide +kernel
theorem dX11_readsQuote_17 : decode cX11_readsQuote 17 = .ok (.ireturn, 1) := by decide +kernel
theorem dX11_readsQuote_18 : decode cX11_readsQuote 18 = .ok (.aload_n 0, 1) := by decide +kernel
theorem dX11_readsQuote_19 : decode cX11_readsQuote 19 = .ok (.getfield 201, 3) := by decide +kernel
theorem dX11_readsQuote_22 : decode cX11_readsQuote 22 = .ok (.istore_n 1, 1) := by decide +kernel
theorem dX11_readsQuote_23 : decode cX11_readsQuote 23 = .ok (.aload_n 0, 1) := by decide +kernel
theorem dX11_readsQuote_24 : decode cX11_readsQuote 24 = .ok (.iconst 0, 1) := by decide +kernel
theorem dX11_readsQuote_25 : decode cX11_readsQuote 25 = .ok (.aload_n 0, 1) := by decide +kernel
theorem dX11_readsQuote_26 : decode cX11_readsQuote 26 = .ok (.iload_n 1, 1) := by decide +kernel
theorem dX11_readsQuote_27 : decode cX11_readsQuote 27 = .ok (.iconst 2, 1) := by decide +kernel
theorem dX11_readsQuote_28 : decode cX11_readsQuote 28 = .ok (.invokevirtual 52, 3) := by decide +kernel
theorem dX11_readsQuote_31 : decode cX11_readsQuote 31 = .ok (.iconst 1, 1) := by decide +kernel
theorem dX11_readsQuote_32 : decode cX11_readsQuote 32 = .ok (.isub, 1) := by decide +kernel
theorem dX11_readsQuote_33 : decode cX11_readsQuote 33 = .ok (.invokevirtual 204, 3) := by decide +kernel
theorem dX11_readsQuote_36 : decode cX11_readsQuote 36 = .ok (.ifCond .ne 5, 3) := by decide +kernel
theorem dX11_readsQuote_39 : decode cX11_readsQuote 39 = .ok (.iconst 0, 1) := by decide +kernel
theorem dX11_readsQuote_40 : decode cX11_readsQuote 40 = .ok (.ireturn, 1) := by decide +kernel
theorem dX11_readsQuote_41 : decode cX11_readsQuote 41 = .ok (.aload_n 0, 1) := by decide +kernel
theorem dX11_readsQuote_42 : decode cX11_readsQuote 42 = .ok (.getfield 201, 3) := by decide +kernel
theorem dX11_readsQuote_45 : decode cX11_readsQuote 45 = .ok (.istore_n 2, 1) := by decide +kernel
theorem dX11_readsQuote_46 : decode cX11_readsQuote 46 = .ok (.aload_n 0, 1) := by decide +kernel
theorem dX11_readsQuote_47 : decode cX11_readsQuote 47 = .ok (.iconst 1, 1) := by decide +kernel
theorem dX11_readsQuote_48 : decode cX11_readsQuote 48 = .ok (.iconst 3, 1) := by decide +kernel
theorem dX11_readsQuote_49 : decode cX11_readsQuote 49 = .ok (.invokevirtual 204, 3) := by decide +kernel
theorem dX11_readsQuote_52 : decode cX11_readsQuote 52 = .ok (.ifCond .ne 5, 3) := by decide +kernel
theorem dX11_readsQuote_55 : decode cX11_readsQuote 55 = .ok (.iconst 0, 1) := by decide +kernel
theorem dX11_readsQuote_56 : decode cX11_readsQuote 56 = .ok (.ireturn, 1) := by decide +kernel
theorem dX11_readsQuote_57 : decode cX11_readsQuote 57 = .ok (.aload_n 0, 1) := by decide +kernel
theorem dX11_readsQuote_58 : decode cX11_readsQuote 58 = .ok (.getfield 201, 3) := by decide +kernel
theorem dX11_readsQuote_61 : decode cX11_readsQuote 61 = .ok (.istore_n 3, 1) := by decide +kernel
theorem dX11_readsQuote_62 : decode cX11_readsQuote 62 = .ok (.aload_n 0, 1) := by decide +kernel
theorem dX11_readsQuote_63 : decode cX11_readsQuote 63 = .ok (.bipush 120, 2) := by decide +kernel
theorem dX11_readsQuote_65 : decode cX11_readsQuote 65 = .ok (.invokevirtual 207, 3) := by decide +kernel
theorem dX11_readsQuote_68 : decode cX11_readsQuote 68 = .ok (.ifCond .eq 13, 3) := by decide +kernel
theorem dX11_readsQuote_71 : decode cX11_readsQuote 71 = .ok (.aload_n 0, 1) := by decide +kernel
theorem dX11_readsQuote_72 : decode cX11_readsQuote 72 = .ok (.iconst 1, 1) := by decide +kernel
theorem dX11_readsQuote_73 : decode cX11_readsQuote 73 = .ok (.bipush 6, 2) := by decide +kernel
theorem dX11_readsQuote_75 : decode cX11_readsQuote 75 = .ok (.invokevirtual 204, 3) := by decide +kernel
theorem dX11_readsQuote_78 : decode cX11_readsQuote 78 = .ok (.ifCond .ne 5, 3) := by decide +kernel
theorem dX11_readsQuote_81 : decode cX11_readsQuote 81 = .ok (.iconst 0, 1) := by decide +kernel
theorem dX11_readsQuote_82 : decode cX11_readsQuote 82 = .ok (.ireturn, 1) := by decide +kernel
theorem dX11_readsQuote_83 : decode cX11_readsQuote 83 = .ok (.aload_n 0, 1) := by decide +kernel
theorem dX11_readsQuote_84 : decode cX11_readsQuote 84 = .ok (.iload_n 1, 1) := by decide +kernel
theorem dX11_readsQuote_85 : decode cX11_readsQuote 85 = .ok (.iload_n 2, 1) := by decide +kernel
theorem dX11_readsQuote_86 : decode cX11_readsQuote 86 = .ok (.iload_n 3, 1) := by decide +kernel
theorem dX11_readsQuote_87 : decode cX11_readsQuote 87 = .ok (.aload_n 0, 1) := by decide +kernel
theorem dX11_readsQuote_88 : decode cX11_readsQuote 88 = .ok (.getfield 201, 3) := by decide +kernel
theorem dX11_readsQuote_91 : decode cX11_readsQuote 91 = .ok (.invokevirtual 173, 3) := by decide +kernel
theorem dX11_readsQuote_94 : decode cX11_readsQuote 94 = .ok (.aload_n 0, 1) := by decide +kernel
theorem dX11_readsQuote_95 : decode cX11_readsQuote 95 = .ok (.bipush 59, 2) := by decide +kernel
theorem dX11_readsQuote_97 : decode cX11_readsQuote 97 = .ok (.invokevirtual 207, 3) := by decide +kernel
theorem dX11_readsQuote_100 : decode cX11_readsQuote 100 = .ok (.ireturn, 1) := by decide +kernel
theorem dX11_article_0 : decode cX11_article 0 = .ok (.aload_n 0, 1) := by decide +kernel
theorem dX11_article_1 : decode cX11_article 1 = .ok (.iconst 0, 1) := by decide +kernel
theorem dX11_article_2 : decode cX11_article 2 = .ok (.putfield 37, 3) := by decide +kernel
theorem dX11_article_5 : decode cX11_article 5 = .ok (.aload_n 0, 1) := by decide +kernel
theorem dX11_article_6 : decode cX11_article 6 = .ok (.iload_n 1, 1) := by decide +kernel
theorem dX11_article_7 : decode cX11_article 7 = .ok (.invokevirtual 48, 3) := by decide +kernel
theorem dX11_article_10 : decode cX11_article 10 = .ok (.ifCond .eq 13, 3) := by decide +kernel
theorem dX11_article_13 : decode cX11_article 13 = .ok (.iload_n 2, 1) := by decide +kernel
theorem dX11_article_14 : decode cX11_article 14 = .ok (.iconst 0, 1) := by decide +kernel
theorem dX11_article_15 : decode cX11_article 15 = .ok (.bipush 6, 2) := by decide +kernel
theorem dX11_article_17 : decode cX11_article 17 = .ok (.invokestatic 44, 3) := by decide +kernel
theorem dX11_article_20 : decode cX11_article 20 = .ok (.ifCond .ne 5, 3) := by decide +kernel
theorem dX11_article_23 : decode cX11_article 23 = .ok (.iconst (-1), 1) := by decide +kernel
theorem dX11_article_24 : decode cX11_article 24 = .ok (.ireturn, 1) := by decide +kernel
theorem dX11_article_25 : decode cX11_article 25 = .ok (.aload_n 0, 1) := by decide +kernel
theorem dX11_article_26 : decode cX11_article 26 = .ok (.invokevirtual 69, 3) := by decide +kernel
theorem dX11_article_29 : decode cX11_article 29 = .ok (.aload_n 0, 1) := by decide +kernel
theorem dX11_article_30 : decode cX11_article 30 = .ok (.iload_n 1, 1) := by decide +kernel
theorem dX11_article_31 : decode cX11_article 31 = .ok (.iconst 1, 1) := by decide +kernel
theorem dX11_article_32 : decode cX11_article 32 = .ok (.invokevirtual 52, 3) := by decide +kernel
theorem dX11_article_35 : decode cX11_article 35 = .ok (.aload_n 0, 1) := by decide +kernel
theorem dX11_article_36 : decode cX11_article 36 = .ok (.getfield 28, 3) := by decide +kernel
theorem dX11_article_39 : decode cX11_article 39 = .ok (.iload_n 1, 1) := by decide +kernel
theorem dX11_article_40 : decode cX11_article 40 = .ok (.iaload, 1) := by decide +kernel
theorem dX11_article_41 : decode cX11_article 41 = .ok (.isub, 1) := by decide +kernel
theorem dX11_article_42 : decode cX11_article 42 = .ok (.istore_n 3, 1) := by decide +kernel
theorem dX11_article_43 : decode cX11_article 43 = .ok (.iload_n 2, 1) := by decide +kernel
theorem dX11_article_44 : decode cX11_article 44 = .ok (.tableswitch 90 3 6 #[32, 39, 46, 66], 32) := by decide +kernel
theorem dX11_article_76 : decode cX11_article 76 = .ok (.aload_n 0, 1) := by decide +kernel
theorem dX11_article_77 : decode cX11_article 77 = .ok (.getfield 28, 3) := by decide +kernel
theorem dX11_article_80 : decode cX11_article 80 = .ok (.iload_n 1, 1) := by decide +kernel
theorem dX11_article_81 : decode cX11_article 81 = .ok (.iaload, 1) := by decide +kernel
theorem dX11_article_82 : decode cX11_article 82 = .ok (.ireturn, 1) := by decide +kernel
theorem dX11_article_83 : decode cX11_article 83 = .ok (.aload_n 0, 1) := by decide +kernel
theorem dX11_article_84 : decode cX11_article 84 = .ok (.getfield 31, 3) := by decide +kernel
theorem dX11_article_87 : decode cX11_article 87 = .ok (.iload_n 1, 1) := by decide +kernel
theorem dX11_article_88 : decode cX11_article 88 = .ok (.iaload, 1) := by decide +kernel
theorem dX11_article_89 : decode cX11_article 89 = .ok (.ireturn, 1) := by decide +kernel
theorem dX11_article_90 : decode cX11_article 90 = .ok (.iload_n 3, 1) := by decide +kernel
theorem dX11_article_91 : decode cX11_article 91 = .ok (.ifCond .ne 8, 3) := by decide +kernel
theorem dX11_article_94 : decode cX11_article 94 = .ok (.bipush (-99), 2) := by decide +kernel
theorem dX11_article_96 : decode cX11_article 96 = .ok (.goto 13, 3) := by decide +kernel
theorem dX11_article_99 : decode cX11_article 99 = .ok (.aload_n 0, 1) := by decide +kernel
theorem dX11_article_100 : decode cX11_article 100 = .ok (.getfield 25, 3) := by decide +kernel
theorem dX11_article_103 : decode cX11_article 103 = .ok (.sipush 200, 3) := by decide +kernel
theorem dX11_article_106 : decode cX11_article 106 = .ok (.iload_n 1, 1) := by decide +kernel
theorem dX11_article_107 : decode cX11_article 107 = .ok (.imul, 1) := by decide +kernel
theorem dX11_article_108 : decode cX11_article 108 = .ok (.iaload, 1) := by decide +kernel
theorem dX11_article_109 : decode cX11_article 109 = .ok (.ireturn, 1) := by decide +kernel
theorem dX11_article_110 : decode cX11_article 110 = .ok (.iload_n 3, 1) := by decide +kernel
theorem dX11_article_111 : decode cX11_article 111 = .ok (.ifCond .ne 8, 3) := by decide +kernel
theorem dX11_article_114 : decode cX11_article 114 = .ok (.bipush (-99), 2) := by decide +kernel
theorem dX11_article_116 : decode cX11_article 116 = .ok (.goto 17, 3) := by decide +kernel
theorem dX11_article_119 : decode cX11_article 119 = .ok (.aload_n 0, 1) := by decide +kernel
theorem dX11_article_120 : decode cX11_article 120 = .ok (.getfield 25, 3) := by decide +kernel
theorem dX11_article_123 : decode cX11_article 123 = .ok (.sipush 200, 3) := by decide +kernel
theorem dX11_article_126 : decode cX11_article 126 = .ok (.iload_n 1, 1) := by decide +kernel
theorem dX11_article_127 : decode cX11_article 127 = .ok (.imul, 1) := by decide +kernel
theorem dX11_article_128 : decode cX11_article 128 = .ok (.iload_n 3, 1) := by decide +kernel
theorem dX11_article_129 : decode cX11_article 129 = .ok (.iadd, 1) := by decide +kernel
theorem dX11_article_130 : decode cX11_article 130 = .ok (.iconst 1, 1) := by decide +kernel
theorem dX11_article_131 : decode cX11_article 131 = .ok (.isub, 1) := by decide +kernel
theorem dX11_article_132 : decode cX11_article 132 = .ok (.iaload, 1) := by decide +kernel
theorem dX11_article_133 : decode cX11_article 133 = .ok (.ireturn, 1) := by decide +kernel
theorem dX11_article_134 : decode cX11_article 134 = .ok (.aload_n 0, 1) := by decide +kernel
theorem dX11_article_135 : decode cX11_article 135 = .ok (.iload_n 1, 1) := by decide +kernel
theorem dX11_article_136 : decode cX11_article 136 = .ok (.iload_n 2, 1) := by decide +kernel
theorem dX11_article_137 : decode cX11_article 137 = .ok (.invokevirtual 52, 3) := by decide +kernel
theorem dX11_article_140 : decode cX11_article 140 = .ok (.ireturn, 1) := by decide +kernel
theorem dX11_lineAt_0 : decode cX11_lineAt 0 = .ok (.aload_n 0, 1) := by decide +kernel
theorem dX11_lineAt_1 : decode cX11_lineAt 1 = .ok (.iconst 0, 1) := by decide +kernel
theorem dX11_lineAt_2 : decode cX11_lineAt 2 = .ok (.putfield 37, 3) := by decide +kernel
theorem dX11_lineAt_5 : decode cX11_lineAt 5 = .ok (.aload_n 0, 1) := by decide +kernel
theorem dX11_lineAt_6 : decode cX11_lineAt 6 = .ok (.iload_n 1, 1) := by decide +kernel
theorem dX11_lineAt_7 : decode cX11_lineAt 7 = .ok (.invokevirtual 48, 3) := by decide +kernel
theorem dX11_lineAt_10 : decode cX11_lineAt 10 = .ok (.ifCond .eq 19, 3) := by decide +kernel
theorem dX11_lineAt_13 : decode cX11_lineAt 13 = .ok (.iload_n 2, 1) := by decide +kernel
theorem dX11_lineAt_14 : decode cX11_lineAt 14 = .ok (.iconst 0, 1) := by decide +kernel
theorem dX11_lineAt_15 : decode cX11_lineAt 15 = .ok (.aload_n 0, 1) := by decide +kernel
theorem dX11_lineAt_16 : decode cX11_lineAt 16 = .ok (.iload_n 1, 1) := by decide +kernel
theorem dX11_lineAt_17 : decode cX11_lineAt 17 = .ok (.iconst 1, 1) := by decide +kernel
theorem dX11_lineAt_18 : decode cX11_lineAt 18 = .ok (.invokevirtual 52, 3) := by decide +kernel
theorem dX11_lineAt_21 : decode cX11_lineAt 21 = .ok (.iconst 1, 1) := by decide +kernel
theorem dX11_lineAt_22 : decode cX11_lineAt 22 = .ok (.isub, 1) := by decide +kernel
theorem dX11_lineAt_23 : decode cX11_lineAt 23 = .ok (.invokestatic 44, 3) := by decide +kernel
theorem dX11_lineAt_26 : decode cX11_lineAt 26 = .ok (.ifCond .ne 5, 3) := by decide +kernel
theorem dX11_lineAt_29 : decode cX11_lineAt 29 = .ok (.iconst (-1), 1) := by decide +kernel
theorem dX11_lineAt_30 : decode cX11_lineAt 30 = .ok (.ireturn, 1) := by decide +kernel
theorem dX11_lineAt_31 : decode cX11_lineAt 31 = .ok (.aload_n 0, 1) := by decide +kernel
theorem dX11_lineAt_32 : decode cX11_lineAt 32 = .ok (.invokevirtual 69, 3) := by decide +kernel
theorem dX11_lineAt_35 : decode cX11_lineAt 35 = .ok (.aload_n 0, 1) := by decide +kernel
theorem dX11_lineAt_36 : decode cX11_lineAt 36 = .ok (.getfield 25, 3) := by decide +kernel
theorem dX11_lineAt_39 : decode cX11_lineAt 39 = .ok (.sipush 200, 3) := by decide +kernel
theorem dX11_lineAt_42 : decode cX11_lineAt 42 = .ok (.iload_n 1, 1) := by decide +kernel
theorem dX11_lineAt_43 : decode cX11_lineAt 43 = .ok (.imul, 1) := by decide +kernel
theorem dX11_lineAt_44 : decode cX11_lineAt 44 = .ok (.iload_n 2, 1) := by decide +kernel
theorem dX11_lineAt_45 : decode cX11_lineAt 45 = .ok (.iadd, 1) := by decide +kernel
theorem dX11_lineAt_46 : decode cX11_lineAt 46 = .ok (.iaload, 1) := by decide +kernel
theorem dX11_lineAt_47 : decode cX11_lineAt 47 = .ok (.ireturn, 1) := by decide +kernel
theorem dX11_sentence_0 : decode cX11_sentence 0 = .ok (.aload_n 0, 1) := by decide +kernel
theorem dX11_sentence_1 : decode cX11_sentence 1 = .ok (.iconst 0, 1) := by decide +kernel
theorem dX11_sentence_2 : decode cX11_sentence 2 = .ok (.putfield 37, 3) := by decide +kernel
theorem dX11_sentence_5 : decode cX11_sentence 5 = .ok (.aload_n 0, 1) := by decide +kernel
theorem dX11_sentence_6 : decode cX11_sentence 6 = .ok (.iload_n 1, 1) := by decide +kernel
theorem dX11_sentence_7 : decode cX11_sentence 7 = .ok (.iload_n 2, 1) := by decide +kernel
theorem dX11_sentence_8 : decode cX11_sentence 8 = .ok (.invokevirtual 170, 3) := by decide +kernel
theorem dX11_sentence_11 : decode cX11_sentence 11 = .ok (.ifCond .eq 12, 3) := by decide +kernel
theorem dX11_sentence_14 : decode cX11_sentence 14 = .ok (.iload_n 3, 1) := by decide +kernel
theorem dX11_sentence_15 : decode cX11_sentence 15 = .ok (.iconst 0, 1) := by decide +kernel
theorem dX11_sentence_16 : decode cX11_sentence 16 = .ok (.iconst 1, 1) := by decide +kernel
theorem dX11_sentence_17 : decode cX11_sentence 17 = .ok (.invokestatic 44, 3) := by decide +kernel
theorem dX11_sentence_20 : decode cX11_sentence 20 = .ok (.ifCond .ne 5, 3) := by decide +kernel
theorem dX11_sentence_23 : decode cX11_sentence 23 = .ok (.iconst (-1), 1) := by decide +kernel
theorem dX11_sentence_24 : decode cX11_sentence 24 = .ok (.ireturn, 1) := by decide +kernel
theorem dX11_sentence_25 : decode cX11_sentence 25 = .ok (.aload_n 0, 1) := by decide +kernel
theorem dX11_sentence_26 : decode cX11_sentence 26 = .ok (.invokevirtual 69, 3) := by decide +kernel
theorem dX11_sentence_29 : decode cX11_sentence 29 = .ok (.aload_n 0, 1) := by decide +kernel
theorem dX11_sentence_30 : decode cX11_sentence 30 = .ok (.iload_n 1, 1) := by decide +kernel
theorem dX11_sentence_31 : decode cX11_sentence 31 = .ok (.iconst 3, 1) := by decide +kernel
theorem dX11_sentence_32 : decode cX11_sentence 32 = .ok (.iload_n 2, 1) := by decide +kernel
theorem dX11_sentence_33 : decode cX11_sentence 33 = .ok (.iadd, 1) := by decide +kernel
theorem dX11_sentence_34 : decode cX11_sentence 34 = .ok (.invokevirtual 52, 3) := by decide +kernel
theorem dX11_sentence_37 : decode cX11_sentence 37 = .ok (.istore 4, 2) := by decide +kernel
theorem dX11_sentence_39 : decode cX11_sentence 39 = .ok (.iload_n 3, 1) := by decide +kernel
theorem dX11_sentence_40 : decode cX11_sentence 40 = .ok (.ifCond .ne 8, 3) := by decide +kernel
theorem dX11_sentence_43 : decode cX11_sentence 43 = .ok (.iload 4, 2) := by decide +kernel
theorem dX11_sentence_45 : decode cX11_sentence 45 = .ok (.goto 16, 3) := by decide +kernel
theorem dX11_sentence_48 : decode cX11_sentence 48 = .ok (.aload_n 0, 1) := by decide +kernel
theorem dX11_sentence_49 : decode cX11_sentence 49 = .ok (.getfield 25, 3) := by decide +kernel
theorem dX11_sentence_52 : decode cX11_sentence 52 = .ok (.sipush 200, 3) := by decide +kernel
theorem dX11_sentence_55 : decode cX11_sentence 55 = .ok (.iload_n 1, 1) := by decide +kernel
theorem dX11_sentence_56 : decode cX11_sentence 56 = .ok (.imul, 1) := by decide +kernel
theorem dX11_sentence_57 : decode cX11_sentence 57 = .ok (.iload 4, 2) := by decide +kernel
theorem dX11_sentence_59 : decode cX11_sentence 59 = .ok (.iadd, 1) := by decide +kernel
theorem dX11_sentence_60 : decode cX11_sentence 60 = .ok (.iaload, 1) := by decide +kernel
theorem dX11_sentence_61 : decode cX11_sentence 61 = .ok (.ireturn, 1) := by decide +kernel
theorem dX11_module_0 : decode cX11_module 0 = .ok (.aload_n 0, 1) := by decide +kernel
theorem dX11_module_1 : decode cX11_module 1 = .ok (.iconst 0, 1) := by decide +kernel
theorem dX11_module_2 : decode cX11_module 2 = .ok (.putfield 37, 3) := by decide +kernel
theorem dX11_module_5 : decode cX11_module 5 = .ok (.iload_n 1, 1) := by decide +kernel
theorem dX11_module_6 : decode cX11_module 6 = .ok (.iconst 0, 1) := by decide +kernel
theorem dX11_module_7 : decode cX11_module 7 = .ok (.sipush 359, 3) := by decide +kernel
theorem dX11_module_10 : decode cX11_module 10 = .ok (.invokestatic 44, 3) := by decide +kernel
theorem dX11_module_13 : decode cX11_module 13 = .ok (.ifCond .ne 5, 3) := by decide +kernel
theorem dX11_module_16 : decode cX11_module 16 = .ok (.iconst (-1), 1) := by decide +kernel
theorem dX11_module_17 : decode cX11_module 17 = .ok (.ireturn, 1) := by decide +kernel
theorem dX11_module_18 : decode cX11_module 18 = .ok (.aload_n 0, 1) := by decide +kernel
theorem dX11_module_19 : decode cX11_module 19 = .ok (.invokevirtual 69, 3) := by decide +kernel
theorem dX11_module_22 : decode cX11_module 22 = .ok (.aload_n 0, 1) := by decide +kernel
theorem dX11_module_23 : decode cX11_module 23 = .ok (.getfield 22, 3) := by decide +kernel
theorem dX11_module_26 : decode cX11_module 26 = .ok (.iload_n 1, 1) := by decide +kernel
theorem dX11_module_27 : decode cX11_module 27 = .ok (.iaload, 1) := by decide +kernel
theorem dX11_module_28 : decode cX11_module 28 = .ok (.ireturn, 1) := by decide +kernel
theorem dX11_page_0 : decode cX11_page 0 = .ok (.aload_n 0, 1) := by decide +kernel
theorem dX11_page_1 : decode cX11_page 1 = .ok (.iconst 0, 1) := by decide +kernel
theorem dX11_page_2 : decode cX11_page 2 = .ok (.putfield 37, 3) := by decide +kernel
theorem dX11_page_5 : decode cX11_page 5 = .ok (.iload_n 1, 1) := by decide +kernel
theorem dX11_page_6 : decode cX11_page 6 = .ok (.iconst 0, 1) := by decide +kernel
theorem dX11_page_7 : decode cX11_page 7 = .ok (.iconst 2, 1) := by decide +kernel
theorem dX11_page_8 : decode cX11_page 8 = .ok (.invokestatic 44, 3) := by decide +kernel
theorem dX11_page_11 : decode cX11_page 11 = .ok (.ifCond .eq 12, 3) := by decide +kernel
theorem dX11_page_14 : decode cX11_page 14 = .ok (.iload_n 2, 1) := by decide +kernel
theorem dX11_page_15 : decode cX11_page 15 = .ok (.iconst 0, 1) := by decide +kernel
theorem dX11_page_16 : decode cX11_page 16 = .ok (.iconst 2, 1) := by decide +kernel
theorem dX11_page_17 : decode cX11_page 17 = .ok (.invokestatic 44, 3) := by decide +kernel
theorem dX11_page_20 : decode cX11_page 20 = .ok (.ifCond .ne 5, 3) := by decide +kernel
theorem dX11_page_23 : decode cX11_page 23 = .ok (.iconst (-1), 1) := by decide +kernel
theorem dX11_page_24 : decode cX11_page 24 = .ok (.ireturn, 1) := by decide +kernel
theorem dX11_page_25 : decode cX11_page 25 = .ok (.aload_n 0, 1) := by decide +kernel
theorem dX11_page_26 : decode cX11_page 26 = .ok (.invokevirtual 69, 3) := by decide +kernel
theorem dX11_page_29 : decode cX11_page 29 = .ok (.bipush 120, 2) := by decide +kernel
theorem dX11_page_31 : decode cX11_page 31 = .ok (.iload_n 1, 1) := by decide +kernel
theorem dX11_page_32 : decode cX11_page 32 = .ok (.imul, 1) := by decide +kernel
theorem dX11_page_33 : decode cX11_page 33 = .ok (.istore_n 3, 1) := by decide +kernel
theorem dX11_page_34 : decode cX11_page 34 = .ok (.iload_n 2, 1) := by decide +kernel
theorem dX11_page_35 : decode cX11_page 35 = .ok (.ifCond .ne 11, 3) := by decide +kernel
theorem dX11_page_38 : decode cX11_page 38 = .ok (.aload_n 0, 1) := by decide +kernel
theorem dX11_page_39 : decode cX11_page 39 = .ok (.iload_n 1, 1) := by decide +kernel
theorem dX11_page_40 : decode cX11_page 40 = .ok (.invokevirtual 92, 3) := by decide +kernel
theorem dX11_page_43 : decode cX11_page 43 = .ok (.goto 36, 3) := by decide +kernel
theorem dX11_page_46 : decode cX11_page 46 = .ok (.iload_n 2, 1) := by decide +kernel
theorem dX11_page_47 : decode cX11_page 47 = .ok (.iconst 1, 1) := by decide +kernel
theorem dX11_page_48 : decode cX11_page 48 = .ok (.if_icmp .ne 19, 3) := by decide +kernel
theorem dX11_page_51 : decode cX11_page 51 = .ok (.aload_n 0, 1) := by decide +kernel
theorem dX11_page_52 : decode cX11_page 52 = .ok (.iload_n 3, 1) := by decide +kernel
theorem dX11_page_53 : decode cX11_page 53 = .ok (.iload_n 3, 1) := by decide +kernel
theorem dX11_page_54 : decode cX11_page 54 = .ok (.bipush 120, 2) := by decide +kernel
theorem dX11_page_56 : decode cX11_page 56 = .ok (.iadd, 1) := by decide +kernel
theorem dX11_page_57 : decode cX11_page 57 = .ok (.bipush 21, 2) := by decide +kernel
theorem dX11_page_59 : decode cX11_page 59 = .ok (.bipush 99, 2) := by decide +kernel
theorem dX11_page_61 : decode cX11_page 61 = .ok (.invokevirtual 232, 3) := by decide +kernel
theorem dX11_page_64 : decode cX11_page 64 = .ok (.goto 15, 3) := by decide +kernel
theorem dX11_page_67 : decode cX11_page 67 = .ok (.aload_n 0, 1) := by decide +kernel
theorem dX11_page_68 : decode cX11_page 68 = .ok (.iload_n 3, 1) := by decide +kernel
theorem dX11_page_69 : decode cX11_page 69 = .ok (.iload_n 3, 1) := by decide +kernel
theorem dX11_page_70 : decode cX11_page 70 = .ok (.bipush 120, 2) := by decide +kernel
theorem dX11_page_72 : decode cX11_page 72 = .ok (.iadd, 1) := by decide +kernel
theorem dX11_page_73 : decode cX11_page 73 = .ok (.iconst 1, 1) := by decide +kernel
theorem dX11_page_74 : decode cX11_page 74 = .ok (.bipush 20, 2) := by decide +kernel
theorem dX11_page_76 : decode cX11_page 76 = .ok (.invokevirtual 232, 3) := by decide +kernel
theorem dX11_page_79 : decode cX11_page 79 = .ok (.ireturn, 1) := by decide +kernel
theorem dX6_readArticle_0 : decode cX6_readArticle 0 = .ok (.aload_n 0, 1) := by decide +kernel
theorem dX6_readArticle_1 : decode cX6_readArticle 1 = .ok (.iconst 0, 1) := by decide +kernel
theorem dX6_readArticle_2 : decode cX6_readArticle 2 = .ok (.sipush 359, 3) := by decide +kernel
theorem dX6_readArticle_5 : decode cX6_readArticle 5 = .ok (.invokevirtual 69, 3) := by decide +kernel
theorem dX6_readArticle_8 : decode cX6_readArticle 8 = .ok (.istore_n 1, 1) := by decide +kernel
theorem dX6_readArticle_9 : decode cX6_readArticle 9 = .ok (.aload_n 0, 1) := by decide +kernel
theorem dX6_readArticle_10 : decode cX6_readArticle 10 = .ok (.iconst 1, 1) := by decide +kernel
theorem dX6_readArticle_11 : decode cX6_readArticle 11 = .ok (.sipush 200, 3) := by decide +kernel
theorem dX6_readArticle_14 : decode cX6_readArticle 14 = .ok (.invokevirtual 69, 3) := by decide +kernel
theorem dX6_readArticle_17 : decode cX6_readArticle 17 = .ok (.istore_n 2, 1) := by decide +kernel
theorem dX6_readArticle_18 : decode cX6_readArticle 18 = .ok (.aload_n 0, 1) := by decide +kernel
theorem dX6_readArticle_19 : decode cX6_readArticle 19 = .ok (.invokevirtual 39, 3) := by decide +kernel
theorem dX6_readArticle_22 : decode cX6_readArticle 22 = .ok (.ifCond .eq 4, 3) := by decide +kernel
theorem dX6_readArticle_25 : decode cX6_readArticle 25 = .ok (.return_, 1) := by decide +kernel
theorem dX6_readArticle_26 : decode cX6_readArticle 26 = .ok (.aload_n 0, 1) := by decide +kernel
theorem dX6_readArticle_27 : decode cX6_readArticle 27 = .ok (.getfield 21, 3) := by decide +kernel
theorem dX6_readArticle_30 : decode cX6_readArticle 30 = .ok (.iload_n 1, 1) := by decide +kernel
theorem dX6_readArticle_31 : decode cX6_readArticle 31 = .ok (.iload_n 2, 1) := by decide +kernel
theorem dX6_readArticle_32 : decode cX6_readArticle 32 = .ok (.invokevirtual 73, 3) := by decide +kernel
theorem dX6_readArticle_35 : decode cX6_readArticle 35 = .ok (.istore_n 3, 1) := by decide +kernel
theorem dX6_readArticle_36 : decode cX6_readArticle 36 = .ok (.aload_n 0, 1) := by decide +kernel
theorem dX6_readArticle_37 : decode cX6_readArticle 37 = .ok (.invokevirtual 43, 3) := by decide +kernel
theorem dX6_readArticle_40 : decode cX6_readArticle 40 = .ok (.bipush 58, 2) := by decide +kernel
theorem dX6_readArticle_42 : decode cX6_readArticle 42 = .ok (.if_icmp .ne 37, 3) := by decide +kernel
theorem dX6_readArticle_45 : decode cX6_readArticle 45 = .ok (.aload_n 0, 1) := by decide +kernel
theorem dX6_readArticle_46 : decode cX6_readArticle 46 = .ok (.getfield 21, 3) := by decide +kernel
theorem dX6_readArticle_49 : decode cX6_readArticle 49 = .ok (.iload_n 3, 1) := by decide +kernel
theorem dX6_readArticle_50 : decode cX6_readArticle 50 = .ok (.invokevirtual 76, 3) := by decide +kernel
theorem dX6_readArticle_53 : decode cX6_readArticle 53 = .ok (.ifCond .eq 26, 3) := by decide +kernel
theorem dX6_readArticle_56 : decode cX6_readArticle 56 = .ok (.aload_n 0, 1) := by decide +kernel
theorem dX6_readArticle_57 : decode cX6_readArticle 57 = .ok (.dup, 1) := by decide +kernel
theorem dX6_readArticle_58 : decode cX6_readArticle 58 = .ok (.getfield 36, 3) := by decide +kernel
theorem dX6_readArticle_61 : decode cX6_readArticle 61 = .ok (.iconst 1, 1) := by decide +kernel
theorem dX6_readArticle_62 : decode cX6_readArticle 62 = .ok (.iadd, 1) := by decide +kernel
theorem dX6_readArticle_63 : decode cX6_readArticle 63 = .ok (.putfield 36, 3) := by decide +kernel
theorem dX6_readArticle_66 : decode cX6_readArticle 66 = .ok (.aload_n 0, 1) := by decide +kernel
theorem dX6_readArticle_67 : decode cX6_readArticle 67 = .ok (.aload_n 0, 1) := by decide +kernel
theorem dX6_readArticle_68 : decode cX6_readArticle 68 = .ok (.getfield 21, 3) := by decide +kernel
theorem dX6_readArticle_71 : decode cX6_readArticle 71 = .ok (.getfield 80, 3) := by decide +kernel
theorem dX6_readArticle_74 : decode cX6_readArticle 74 = .ok (.iload_n 3, 1) := by decide +kernel
theorem dX6_readArticle_75 : decode cX6_readArticle 75 = .ok (.aaload, 1) := by decide +kernel
theorem dX6_readArticle_76 : decode cX6_readArticle 76 = .ok (.invokevirtual 84, 3) := by decide +kernel
theorem dX6_readArticle_79 : decode cX6_readArticle 79 = .ok (.return_, 1) := by decide +kernel
theorem dX9_reasonInLayout_0 : decode cX9_reasonInLayout 0 = .ok (.aload_n 0, 1) := by decide +kernel
theorem dX9_reasonInLayout_1 : decode cX9_reasonInLayout 1 = .ok (.getfield 25, 3) := by decide +kernel
theorem dX9_reasonInLayout_4 : decode cX9_reasonInLayout 4 = .ok (.aload_n 0, 1) := by decide +kernel
theorem dX9_reasonInLayout_5 : decode cX9_reasonInLayout 5 = .ok (.getfield 21, 3) := by decide +kernel
theorem dX9_reasonInLayout_8 : decode cX9_reasonInLayout 8 = .ok (.invokevirtual 86, 3) := by decide +kernel
theorem dX9_reasonInLayout_11 : decode cX9_reasonInLayout 11 = .ok (.ifCond .eq 5, 3) := by decide +kernel
theorem dX9_reasonInLayout_14 : decode cX9_reasonInLayout 14 = .ok (.iconst 3, 1) := by decide +kernel
theorem dX9_reasonInLayout_15 : decode cX9_reasonInLayout 15 = .ok (.ireturn, 1) := by decide +kernel
theorem dX9_reasonInLayout_16 : decode cX9_reasonInLayout 16 = .ok (.aload_n 1, 1) := by decide +kernel
theorem dX9_reasonInLayout_17 : decode cX9_reasonInLayout 17 = .ok (.getfield 90, 3) := by decide +kernel
theorem dX9_reasonInLayout_20 : decode cX9_reasonInLayout 20 = .ok (.aload_n 0, 1) := by decide +kernel
theorem dX9_reasonInLayout_21 : decode cX9_reasonInLayout 21 = .ok (.getfield 12, 3) := by decide +kernel
theorem dX9_reasonInLayout_24 : decode cX9_reasonInLayout 24 = .ok (.getfield 93, 3) := by decide +kernel
theorem dX9_reasonInLayout_27 : decode cX9_reasonInLayout 27 = .ok (.if_icmp .ge 25, 3) := by decide +kernel
theorem dX9_reasonInLayout_30 : decode cX9_reasonInLayout 30 = .ok (.aload_n 0, 1) := by decide +kernel
theorem dX9_reasonInLayout_31 : decode cX9_reasonInLayout 31 = .ok (.getfield 25, 3) := by decide +kernel
theorem dX9_reasonInLayout_34 : decode cX9_reasonInLayout 34 = .ok (.getfield 96, 3) := by decide +kernel
theorem dX9_reasonInLayout_37 : decode cX9_reasonInLayout 37 = .ok (.aload_n 1, 1) := by decide +kernel
theorem dX9_reasonInLayout_38 : decode cX9_reasonInLayout 38 = .ok (.getfield 90, 3) := by decide +kernel
theorem dX9_reasonInLayout_41 : decode cX9_reasonInLayout 41 = .ok (.aaload, 1) := by decide +kernel
theorem dX9_reasonInLayout_42 : decode cX9_reasonInLayout 42 = .ok (.aload_n 1, 1) := by decide +kernel
theorem dX9_reasonInLayout_43 : decode cX9_reasonInLayout 43 = .ok (.getfield 76, 3) := by decide +kernel
theorem dX9_reasonInLayout_46 : decode cX9_reasonInLayout 46 = .ok (.invokevirtual 100, 3) := by decide +kernel
theorem dX9_reasonInLayout_49 : decode cX9_reasonInLayout 49 = .ok (.ifCond .ne 5, 3) := by decide +kernel
theorem dX9_reasonInLayout_52 : decode cX9_reasonInLayout 52 = .ok (.iconst 4, 1) := by decide +kernel
theorem dX9_reasonInLayout_53 : decode cX9_reasonInLayout 53 = .ok (.ireturn, 1) := by decide +kernel
theorem dX9_reasonInLayout_54 : decode cX9_reasonInLayout 54 = .ok (.aload_n 0, 1) := by decide +kernel
theorem dX9_reasonInLayout_55 : decode cX9_reasonInLayout 55 = .ok (.aload_n 1, 1) := by decide +kernel
theorem dX9_reasonInLayout_56 : decode cX9_reasonInLayout 56 = .ok (.invokevirtual 106, 3) := by decide +kernel
theorem dX9_reasonInLayout_59 : decode cX9_reasonInLayout 59 = .ok (.ifCond .eq 5, 3) := by decide +kernel
theorem dX9_reasonInLayout_62 : decode cX9_reasonInLayout 62 = .ok (.iconst 5, 1) := by decide +kernel
theorem dX9_reasonInLayout_63 : decode cX9_reasonInLayout 63 = .ok (.ireturn, 1) := by decide +kernel
theorem dX9_reasonInLayout_64 : decode cX9_reasonInLayout 64 = .ok (.iconst 0, 1) := by decide +kernel
theorem dX9_reasonInLayout_65 : decode cX9_reasonInLayout 65 = .ok (.istore_n 2, 1) := by decide +kernel
theorem dX9_reasonInLayout_66 : decode cX9_reasonInLayout 66 = .ok (.iload_n 2, 1) := by decide +kernel
theorem dX9_reasonInLayout_67 : decode cX9_reasonInLayout 67 = .ok (.aload_n 0, 1) := by decide +kernel
theorem dX9_reasonInLayout_68 : decode cX9_reasonInLayout 68 = .ok (.getfield 12, 3) := by decide +kernel
theorem dX9_reasonInLayout_71 : decode cX9_reasonInLayout 71 = .ok (.getfield 73, 3) := by decide +kernel
theorem dX9_reasonInLayout_74 : decode cX9_reasonInLayout 74 = .ok (.if_icmp .ge 36, 3) := by decide +kernel
theorem dX9_reasonInLayout_77 : decode cX9_reasonInLayout 77 = .ok (.iload_n 2, 1) := by decide +kernel
theorem dX9_reasonInLayout_78 : decode cX9_reasonInLayout 78 = .ok (.aload_n 0, 1) := by decide +kernel
theorem dX9_reasonInLayout_79 : decode cX9_reasonInLayout 79 = .ok (.getfield 32, 3) := by decide +kernel
theorem dX9_reasonInLayout_82 : decode cX9_reasonInLayout 82 = .ok (.if_icmp .eq 22, 3) := by decide +kernel
theorem dX9_reasonInLayout_85 : decode cX9_reasonInLayout 85 = .ok (.aload_n 0, 1) := by decide +kernel
theorem dX9_reasonInLayout_86 : decode cX9_reasonInLayout 86 = .ok (.aload_n 0, 1) := by decide +kernel
theorem dX9_reasonInLayout_87 : decode cX9_reasonInLayout 87 = .ok (.getfield 12, 3) := by decide +kernel
theorem dX9_reasonInLayout_90 : decode cX9_reasonInLayout 90 = .ok (.getfield 36, 3) := by decide +kernel
theorem dX9_reasonInLayout_93 : decode cX9_reasonInLayout 93 = .ok (.iload_n 2, 1) := by decide +kernel
theorem dX9_reasonInLayout_94 : decode cX9_reasonInLayout 94 = .ok (.aaload, 1) := by decide +kernel
theorem dX9_reasonInLayout_95 : decode cX9_reasonInLayout 95 = .ok (.invokevirtual 106, 3) := by decide +kernel
theorem dX9_reasonInLayout_98 : decode cX9_reasonInLayout 98 = .ok (.ifCond .eq 6, 3) := by decide +kernel
theorem dX9_reasonInLayout_101 : decode cX9_reasonInLayout 101 = .ok (.bipush 6, 2) := by decide +kernel
theorem dX9_reasonInLayout_103 : decode cX9_reasonInLayout 103 = .ok (.ireturn, 1) := by decide +kernel
theorem dX9_reasonInLayout_104 : decode cX9_reasonInLayout 104 = .ok (.iinc 2 1, 3) := by decide +kernel
theorem dX9_reasonInLayout_107 : decode cX9_reasonInLayout 107 = .ok (.goto (-41), 3) := by decide +kernel
theorem dX9_reasonInLayout_110 : decode cX9_reasonInLayout 110 = .ok (.iconst 0, 1) := by decide +kernel
theorem dX9_reasonInLayout_111 : decode cX9_reasonInLayout 111 = .ok (.ireturn, 1) := by decide +kernel
theorem dX9_unrestAt_0 : decode cX9_unrestAt 0 = .ok (.aload_n 0, 1) := by decide +kernel
theorem dX9_unrestAt_1 : decode cX9_unrestAt 1 = .ok (.getfield 12, 3) := by decide +kernel
theorem dX9_unrestAt_4 : decode cX9_unrestAt 4 = .ok (.getfield 36, 3) := by decide +kernel
theorem dX9_unrestAt_7 : decode cX9_unrestAt 7 = .ok (.aload_n 0, 1) := by decide +kernel
theorem dX9_unrestAt_8 : decode cX9_unrestAt 8 = .ok (.getfield 32, 3) := by decide +kernel
theorem dX9_unrestAt_11 : decode cX9_unrestAt 11 = .ok (.aaload, 1) := by decide +kernel
theorem dX9_unrestAt_12 : decode cX9_unrestAt 12 = .ok (.iload_n 1, 1) := by decide +kernel
theorem dX9_unrestAt_13 : decode cX9_unrestAt 13 = .ok (.invokevirtual 49, 3) := by decide +kernel
theorem dX9_unrestAt_16 : decode cX9_unrestAt 16 = .ok (.aload_n 0, 1) := by decide +kernel
theorem dX9_unrestAt_17 : decode cX9_unrestAt 17 = .ok (.getfield 12, 3) := by decide +kernel
theorem dX9_unrestAt_20 : decode cX9_unrestAt 20 = .ok (.invokevirtual 134, 3) := by decide +kernel
theorem dX9_unrestAt_23 : decode cX9_unrestAt 23 = .ok (.ireturn, 1) := by decide +kernel
theorem dX10_undo_0 : decode cX10_undo 0 = .ok (.aload_n 0, 1) := by decide +kernel
theorem dX10_undo_1 : decode cX10_undo 1 = .ok (.getfield 19, 3) := by decide +kernel
theorem dX10_undo_4 : decode cX10_undo 4 = .ok (.getfield 182, 3) := by decide +kernel
theorem dX10_undo_7 : decode cX10_undo 7 = .ok (.ifCond .ne 6, 3) := by decide +kernel
theorem dX10_undo_10 : decode cX10_undo 10 = .ok (.bipush (-2), 2) := by decide +kernel
theorem dX10_undo_12 : decode cX10_undo 12 = .ok (.ireturn, 1) := by decide +kernel
theorem dX10_undo_13 : decode cX10_undo 13 = .ok (.aload_n 0, 1) := by decide +kernel
theorem dX10_undo_14 : decode cX10_undo 14 = .ok (.getfield 19, 3) := by decide +kernel
theorem dX10_undo_17 : decode cX10_undo 17 = .ok (.aload_n 0, 1) := by decide +kernel
theorem dX10_undo_18 : decode cX10_undo 18 = .ok (.getfield 12, 3) := by decide +kernel
theorem dX10_undo_21 : decode cX10_undo 21 = .ok (.invokevirtual 185, 3) := by decide +kernel
theorem dX10_undo_24 : decode cX10_undo 24 = .ok (.aload_n 0, 1) := by decide +kernel
theorem dX10_undo_25 : decode cX10_undo 25 = .ok (.iconst 1, 1) := by decide +kernel
theorem dX10_undo_26 : decode cX10_undo 26 = .ok (.putfield 49, 3) := by decide +kernel
theorem dX10_undo_29 : decode cX10_undo 29 = .ok (.aload_n 0, 1) := by decide +kernel
theorem dX10_undo_30 : decode cX10_undo 30 = .ok (.getfield 19, 3) := by decide +kernel
theorem dX10_undo_33 : decode cX10_undo 33 = .ok (.getfield 182, 3) := by decide +kernel
theorem dX10_undo_36 : decode cX10_undo 36 = .ok (.ireturn, 1) := by decide +kernel
theorem dX10_count_0 : decode cX10_count 0 = .ok (.aload_n 0, 1) := by decide +kernel
theorem dX10_count_1 : decode cX10_count 1 = .ok (.getfield 12, 3) := by decide +kernel
theorem dX10_count_4 : decode cX10_count 4 = .ok (.getfield 53, 3) := by decide +kernel
theorem dX10_count_7 : decode cX10_count 7 = .ok (.astore_n 2, 1) := by decide +kernel
theorem dX10_count_8 : decode cX10_count 8 = .ok (.iload_n 1, 1) := by decide +kernel
theorem dX10_count_9 : decode cX10_count 9 = .ok (.tableswitch 161 0 12 #[67, 72, 77, 82, 89, 96, 103, 111, 119, 132, 137, 145, 153], 67) := by decide +kernel
theorem dX10_count_76 : decode cX10_count 76 = .ok (.aload_n 2, 1) := by decide +kernel
theorem dX10_count_77 : decode cX10_count 77 = .ok (.getfield 65, 3) := by decide +kernel
theorem dX10_count_80 : decode cX10_count 80 = .ok (.ireturn, 1) := by decide +kernel
theorem dX10_count_81 : decode cX10_count 81 = .ok (.aload_n 2, 1) := by decide +kernel
theorem dX10_count_82 : decode cX10_count 82 = .ok (.getfield 115, 3) := by decide +kernel
theorem dX10_count_85 : decode cX10_count 85 = .ok (.ireturn, 1) := by decide +kernel
theorem dX10_count_86 : decode cX10_count 86 = .ok (.aload_n 2, 1) := by decide +kernel
theorem dX10_count_87 : decode cX10_count 87 = .ok (.invokevirtual 179, 3) := by decide +kernel
theorem dX10_count_90 : decode cX10_count 90 = .ok (.ireturn, 1) := by decide +kernel
theorem dX10_count_91 : decode cX10_count 91 = .ok (.aload_n 2, 1) := by decide +kernel
theorem dX10_count_92 : decode cX10_count 92 = .ok (.getfield 163, 3) := by decide +kernel
theorem dX10_count_95 : decode cX10_count 95 = .ok (.iconst 0, 1) := by decide +kernel
theorem dX10_count_96 : decode cX10_count 96 = .ok (.iaload, 1) := by decide +kernel
theorem dX10_count_97 : decode cX10_count 97 = .ok (.ireturn, 1) := by decide +kernel
theorem dX10_count_98 : decode cX10_count 98 = .ok (.aload_n 2, 1) := by decide +kernel
theorem dX10_count_99 : decode cX10_count 99 = .ok (.getfield 163, 3) := by decide +kernel
theorem dX10_count_102 : decode cX10_count 102 = .ok (.iconst 1, 1) := by decide +kernel
theorem dX10_count_103 : decode cX10_count 103 = .ok (.iaload, 1) := by decide +kernel
theorem dX10_count_104 : decode cX10_count 104 = .ok (.ireturn, 1) := by decide +kernel
theorem dX10_count_105 : decode cX10_count 105 = .ok (.aload_n 2, 1) := by decide +kernel
theorem dX10_count_106 : decode cX10_count 106 = .ok (.getfield 163, 3) := by decide +kernel
theorem dX10_count_109 : decode cX10_count 109 = .ok (.iconst 2, 1) := by decide +kernel
theorem dX10_count_110 : decode cX10_count 110 = .ok (.iaload, 1) := by decide +kernel
theorem dX10_count_111 : decode cX10_count 111 = .ok (.ireturn, 1) := by decide +kernel
theorem dX10_count_112 : decode cX10_count 112 = .ok (.aload_n 0, 1) := by decide +kernel
theorem dX10_count_113 : decode cX10_count 113 = .ok (.invokevirtual 211, 3) := by decide +kernel
theorem dX10_count_116 : decode cX10_count 116 = .ok (.invokevirtual 215, 3) := by decide +kernel
theorem dX10_count_119 : decode cX10_count 119 = .ok (.ireturn, 1) := by decide +kernel
theorem dX10_count_120 : decode cX10_count 120 = .ok (.aload_n 0, 1) := by decide +kernel
theorem dX10_count_121 : decode cX10_count 121 = .ok (.invokevirtual 211, 3) := by decide +kernel
theorem dX10_count_124 : decode cX10_count 124 = .ok (.invokevirtual 218, 3) := by decide +kernel
theorem dX10_count_127 : decode cX10_count 127 = .ok (.ireturn, 1) := by decide +kernel
theorem dX10_count_128 : decode cX10_count 128 = .ok (.aload_n 0, 1) := by decide +kernel
theorem dX10_count_129 : decode cX10_count 129 = .ok (.invokevirtual 211, 3) := by decide +kernel
theorem dX10_count_132 : decode cX10_count 132 = .ok (.iconst 0, 1) := by decide +kernel
theorem dX10_count_133 : decode cX10_count 133 = .ok (.sipush 360, 3) := by decide +kernel
theorem dX10_count_136 : decode cX10_count 136 = .ok (.iconst 1, 1) := by decide +kernel
theorem dX10_count_137 : decode cX10_count 137 = .ok (.invokevirtual 221, 3) := by decide +kernel
theorem dX10_count_140 : decode cX10_count 140 = .ok (.ireturn, 1) := by decide +kernel
theorem dX10_count_141 : decode cX10_count 141 = .ok (.aload_n 2, 1) := by decide +kernel
theorem dX10_count_142 : decode cX10_count 142 = .ok (.invokevirtual 151, 3) := by decide +kernel
theorem dX10_count_145 : decode cX10_count 145 = .ok (.ireturn, 1) := by decide +kernel
theorem dX10_count_146 : decode cX10_count 146 = .ok (.aload_n 0, 1) := by decide +kernel
theorem dX10_count_147 : decode cX10_count 147 = .ok (.getfield 12, 3) := by decide +kernel
theorem dX10_count_150 : decode cX10_count 150 = .ok (.invokevirtual 224, 3) := by decide +kernel
theorem dX10_count_153 : decode cX10_count 153 = .ok (.ireturn, 1) := by decide +kernel
theorem dX10_count_154 : decode cX10_count 154 = .ok (.aload_n 0, 1) := by decide +kernel
theorem dX10_count_155 : decode cX10_count 155 = .ok (.getfield 19, 3) := by decide +kernel
theorem dX10_count_158 : decode cX10_count 158 = .ok (.getfield 182, 3) := by decide +kernel
theorem dX10_count_161 : decode cX10_count 161 = .ok (.ireturn, 1) := by decide +kernel
theorem dX10_count_162 : decode cX10_count 162 = .ok (.aload_n 0, 1) := by decide +kernel
theorem dX10_count_163 : decode cX10_count 163 = .ok (.getfield 34, 3) := by decide +kernel
theorem dX10_count_166 : decode cX10_count 166 = .ok (.getfield 189, 3) := by decide +kernel
theorem dX10_count_169 : decode cX10_count 169 = .ok (.ireturn, 1) := by decide +kernel
theorem dX10_count_170 : decode cX10_count 170 = .ok (.iconst (-1), 1) := by decide +kernel
theorem dX10_count_171 : decode cX10_count 171 = .ok (.ireturn, 1) := by decide +kernel
theorem dX10_article_0 : decode cX10_article 0 = .ok (.aload_n 0, 1) := by decide +kernel
theorem dX10_article_1 : decode cX10_article 1 = .ok (.getfield 12, 3) := by decide +kernel
theorem dX10_article_4 : decode cX10_article 4 = .ok (.getfield 53, 3) := by decide +kernel
theorem dX10_article_7 : decode cX10_article 7 = .ok (.iload_n 1, 1) := by decide +kernel
theorem dX10_article_8 : decode cX10_article 8 = .ok (.invokevirtual 78, 3) := by decide +kernel
theorem dX10_article_11 : decode cX10_article 11 = .ok (.ifCond .ne 5, 3) := by decide +kernel
theorem dX10_article_14 : decode cX10_article 14 = .ok (.iconst (-1), 1) := by decide +kernel
theorem dX10_article_15 : decode cX10_article 15 = .ok (.ireturn, 1) := by decide +kernel
theorem dX10_article_16 : decode cX10_article 16 = .ok (.aload_n 0, 1) := by decide +kernel
theorem dX10_article_17 : decode cX10_article 17 = .ok (.getfield 12, 3) := by decide +kernel
theorem dX10_article_20 : decode cX10_article 20 = .ok (.getfield 53, 3) := by decide +kernel
theorem dX10_article_23 : decode cX10_article 23 = .ok (.getfield 85, 3) := by decide +kernel
theorem dX10_article_26 : decode cX10_article 26 = .ok (.iload_n 1, 1) := by decide +kernel
theorem dX10_article_27 : decode cX10_article 27 = .ok (.aaload, 1) := by decide +kernel
theorem dX10_article_28 : decode cX10_article 28 = .ok (.astore_n 3, 1) := by decide +kernel
theorem dX10_article_29 : decode cX10_article 29 = .ok (.aload_n 0, 1) := by decide +kernel
theorem dX10_article_30 : decode cX10_article 30 = .ok (.invokevirtual 211, 3) := by decide +kernel
theorem dX10_article_33 : decode cX10_article 33 = .ok (.getfield 227, 3) := by decide +kernel
theorem dX10_article_36 : decode cX10_article 36 = .ok (.iload_n 1, 1) := by decide +kernel
theorem dX10_article_37 : decode cX10_article 37 = .ok (.aaload, 1) := by decide +kernel
theorem dX10_article_38 : decode cX10_article 38 = .ok (.astore 4, 2) := by decide +kernel
theorem dX10_article_40 : decode cX10_article 40 = .ok (.iload_n 2, 1) := by decide +kernel
theorem dX10_article_41 : decode cX10_article 41 = .ok (.tableswitch 90 0 6 #[43, 48, 53, 58, 64, 70, 77], 43) := by decide +kernel
theorem dX10_article_84 : decode cX10_article 84 = .ok (.aload_n 3, 1) := by decide +kernel
theorem dX10_article_85 : decode cX10_article 85 = .ok (.getfield 89, 3) := by decide +kernel
theorem dX10_article_88 : decode cX10_article 88 = .ok (.ireturn, 1) := by decide +kernel
theorem dX10_article_89 : decode cX10_article 89 = .ok (.aload_n 3, 1) := by decide +kernel
theorem dX10_article_90 : decode cX10_article 90 = .ok (.getfield 98, 3) := by decide +kernel
theorem dX10_article_93 : decode cX10_article 93 = .ok (.ireturn, 1) := by decide +kernel
theorem dX10_article_94 : decode cX10_article 94 = .ok (.aload_n 3, 1) := by decide +kernel
theorem dX10_article_95 : decode cX10_article 95 = .ok (.getfield 105, 3) := by decide +kernel
theorem dX10_article_98 : decode cX10_article 98 = .ok (.ireturn, 1) := by decide +kernel
theorem dX10_article_99 : decode cX10_article 99 = .ok (.aload 4, 2) := by decide +kernel
theorem dX10_article_101 : decode cX10_article 101 = .ok (.getfield 231, 3) := by decide +kernel
theorem dX10_article_104 : decode cX10_article 104 = .ok (.ireturn, 1) := by decide +kernel
theorem dX10_article_105 : decode cX10_article 105 = .ok (.aload 4, 2) := by decide +kernel
theorem dX10_article_107 : decode cX10_article 107 = .ok (.getfield 236, 3) := by decide +kernel
theorem dX10_article_110 : decode cX10_article 110 = .ok (.ireturn, 1) := by decide +kernel
theorem dX10_article_111 : decode cX10_article 111 = .ok (.aload 4, 2) := by decide +kernel
theorem dX10_article_113 : decode cX10_article 113 = .ok (.iconst 0, 1) := by decide +kernel
theorem dX10_article_114 : decode cX10_article 114 = .ok (.invokevirtual 239, 3) := by decide +kernel
theorem dX10_article_117 : decode cX10_article 117 = .ok (.ireturn, 1) := by decide +kernel
theorem dX10_article_118 : decode cX10_article 118 = .ok (.aload 4, 2) := by decide +kernel
theorem dX10_article_120 : decode cX10_article 120 = .ok (.aload 4, 2) := by decide +kernel
theorem dX10_article_122 : decode cX10_article 122 = .ok (.getfield 242, 3) := by decide +kernel
theorem dX10_article_125 : decode cX10_article 125 = .ok (.iconst 1, 1) := by decide +kernel
theorem dX10_article_126 : decode cX10_article 126 = .ok (.isub, 1) := by decide +kernel
theorem dX10_article_127 : decode cX10_article 127 = .ok (.invokevirtual 239, 3) := by decide +kernel
theorem dX10_article_130 : decode cX10_article 130 = .ok (.ireturn, 1) := by decide +kernel
theorem dX10_article_131 : decode cX10_article 131 = .ok (.iconst (-1), 1) := by decide +kernel
theorem dX10_article_132 : decode cX10_article 132 = .ok (.ireturn, 1) := by decide +kernel
theorem dX10_lineAt_0 : decode cX10_lineAt 0 = .ok (.aload_n 0, 1) := by decide +kernel
theorem dX10_lineAt_1 : decode cX10_lineAt 1 = .ok (.getfield 12, 3) := by decide +kernel
theorem dX10_lineAt_4 : decode cX10_lineAt 4 = .ok (.getfield 53, 3) := by decide +kernel
theorem dX10_lineAt_7 : decode cX10_lineAt 7 = .ok (.iload_n 1, 1) := by decide +kernel
theorem dX10_lineAt_8 : decode cX10_lineAt 8 = .ok (.iload_n 2, 1) := by decide +kernel
theorem dX10_lineAt_9 : decode cX10_lineAt 9 = .ok (.invokevirtual 101, 3) := by decide +kernel
theorem dX10_lineAt_12 : decode cX10_lineAt 12 = .ok (.ifCond .ne 5, 3) := by decide +kernel
theorem dX10_lineAt_15 : decode cX10_lineAt 15 = .ok (.iconst (-1), 1) := by decide +kernel
theorem dX10_lineAt_16 : decode cX10_lineAt 16 = .ok (.ireturn, 1) := by decide +kernel
theorem dX10_lineAt_17 : decode cX10_lineAt 17 = .ok (.aload_n 0, 1) := by decide +kernel
theorem dX10_lineAt_18 : decode cX10_lineAt 18 = .ok (.invokevirtual 211, 3) := by decide +kernel
theorem dX10_lineAt_21 : decode cX10_lineAt 21 = .ok (.getfield 227, 3) := by decide +kernel
theorem dX10_lineAt_24 : decode cX10_lineAt 24 = .ok (.iload_n 1, 1) := by decide +kernel
theorem dX10_lineAt_25 : decode cX10_lineAt 25 = .ok (.aaload, 1) := by decide +kernel
theorem dX10_lineAt_26 : decode cX10_lineAt 26 = .ok (.iload_n 2, 1) := by decide +kernel
theorem dX10_lineAt_27 : decode cX10_lineAt 27 = .ok (.invokevirtual 239, 3) := by decide +kernel
theorem dX10_lineAt_30 : decode cX10_lineAt 30 = .ok (.ireturn, 1) := by decide +kernel
theorem dX10_sentence_0 : decode cX10_sentence 0 = .ok (.aload_n 0, 1) := by decide +kernel
theorem dX10_sentence_1 : decode cX10_sentence 1 = .ok (.getfield 12, 3) := by decide +kernel
theorem dX10_sentence_4 : decode cX10_sentence 4 = .ok (.getfield 53, 3) := by decide +kernel
theorem dX10_sentence_7 : decode cX10_sentence 7 = .ok (.iload_n 1, 1) := by decide +kernel
theorem dX10_sentence_8 : decode cX10_sentence 8 = .ok (.iload_n 2, 1) := by decide +kernel
theorem dX10_sentence_9 : decode cX10_sentence 9 = .ok (.invokevirtual 112, 3) := by decide +kernel
theorem dX10_sentence_12 : decode cX10_sentence 12 = .ok (.ifCond .eq 12, 3) := by decide +kernel
theorem dX10_sentence_15 : decode cX10_sentence 15 = .ok (.iload_n 3, 1) := by decide +kernel
theorem dX10_sentence_16 : decode cX10_sentence 16 = .ok (.iconst 0, 1) := by decide +kernel
theorem dX10_sentence_17 : decode cX10_sentence 17 = .ok (.iconst 1, 1) := by decide +kernel
theorem dX10_sentence_18 : decode cX10_sentence 18 = .ok (.invokestatic 61, 3) := by decide +kernel
theorem dX10_sentence_21 : decode cX10_sentence 21 = .ok (.ifCond .ne 5, 3) := by decide +kernel
theorem dX10_sentence_24 : decode cX10_sentence 24 = .ok (.iconst (-1), 1) := by decide +kernel
theorem dX10_sentence_25 : decode cX10_sentence 25 = .ok (.ireturn, 1) := by decide +kernel
theorem dX10_sentence_26 : decode cX10_sentence 26 = .ok (.aload_n 0, 1) := by decide +kernel
theorem dX10_sentence_27 : decode cX10_sentence 27 = .ok (.getfield 12, 3) := by decide +kernel
theorem dX10_sentence_30 : decode cX10_sentence 30 = .ok (.getfield 53, 3) := by decide +kernel
theorem dX10_sentence_33 : decode cX10_sentence 33 = .ok (.getfield 85, 3) := by decide +kernel
theorem dX10_sentence_36 : decode cX10_sentence 36 = .ok (.iload_n 1, 1) := by decide +kernel
theorem dX10_sentence_37 : decode cX10_sentence 37 = .ok (.aaload, 1) := by decide +kernel
theorem dX10_sentence_38 : decode cX10_sentence 38 = .ok (.getfield 245, 3) := by decide +kernel
theorem dX10_sentence_41 : decode cX10_sentence 41 = .ok (.iload_n 2, 1) := by decide +kernel
theorem dX10_sentence_42 : decode cX10_sentence 42 = .ok (.iaload, 1) := by decide +kernel
theorem dX10_sentence_43 : decode cX10_sentence 43 = .ok (.istore 4, 2) := by decide +kernel
theorem dX10_sentence_45 : decode cX10_sentence 45 = .ok (.iload_n 3, 1) := by decide +kernel
theorem dX10_sentence_46 : decode cX10_sentence 46 = .ok (.ifCond .ne 8, 3) := by decide +kernel
theorem dX10_sentence_49 : decode cX10_sentence 49 = .ok (.iload 4, 2) := by decide +kernel
theorem dX10_sentence_51 : decode cX10_sentence 51 = .ok (.goto 17, 3) := by decide +kernel
theorem dX10_sentence_54 : decode cX10_sentence 54 = .ok (.aload_n 0, 1) := by decide +kernel
theorem dX10_sentence_55 : decode cX10_sentence 55 = .ok (.invokevirtual 211, 3) := by decide +kernel
theorem dX10_sentence_58 : decode cX10_sentence 58 = .ok (.getfield 227, 3) := by decide +kernel
theorem dX10_sentence_61 : decode cX10_sentence 61 = .ok (.iload_n 1, 1) := by decide +kernel
theorem dX10_sentence_62 : decode cX10_sentence 62 = .ok (.aaload, 1) := by decide +kernel
theorem dX10_sentence_63 : decode cX10_sentence 63 = .ok (.iload 4, 2) := by decide +kernel
theorem dX10_sentence_65 : decode cX10_sentence 65 = .ok (.invokevirtual 239, 3) := by decide +kernel
theorem dX10_sentence_68 : decode cX10_sentence 68 = .ok (.ireturn, 1) := by decide +kernel
theorem dX10_quote_0 : decode cX10_quote 0 = .ok (.aload_n 0, 1) := by decide +kernel
theorem dX10_quote_1 : decode cX10_quote 1 = .ok (.getfield 12, 3) := by decide +kernel
theorem dX10_quote_4 : decode cX10_quote 4 = .ok (.getfield 53, 3) := by decide +kernel
theorem dX10_quote_7 : decode cX10_quote 7 = .ok (.iload_n 1, 1) := by decide +kernel
theorem dX10_quote_8 : decode cX10_quote 8 = .ok (.invokevirtual 122, 3) := by decide +kernel
theorem dX10_quote_11 : decode cX10_quote 11 = .ok (.ifCond .ne 5, 3) := by decide +kernel
theorem dX10_quote_14 : decode cX10_quote 14 = .ok (.iconst (-1), 1) := by decide +kernel
theorem dX10_quote_15 : decode cX10_quote 15 = .ok (.ireturn, 1) := by decide +kernel
theorem dX10_quote_16 : decode cX10_quote 16 = .ok (.aload_n 0, 1) := by decide +kernel
theorem dX10_quote_17 : decode cX10_quote 17 = .ok (.getfield 12, 3) := by decide +kernel
theorem dX10_quote_20 : decode cX10_quote 20 = .ok (.getfield 53, 3) := by decide +kernel
theorem dX10_quote_23 : decode cX10_quote 23 = .ok (.getfield 142, 3) := by decide +kernel
theorem dX10_quote_26 : decode cX10_quote 26 = .ok (.iload_n 1, 1) := by decide +kernel
theorem dX10_quote_27 : decode cX10_quote 27 = .ok (.aaload, 1) := by decide +kernel
theorem dX10_quote_28 : decode cX10_quote 28 = .ok (.astore_n 3, 1) := by decide +kernel
theorem dX10_quote_29 : decode cX10_quote 29 = .ok (.iload_n 2, 1) := by decide +kernel
theorem dX10_quote_30 : decode cX10_quote 30 = .ok (.tableswitch 133 0 7 #[46, 51, 56, 61, 66, 83, 100, 117], 46) := by decide +kernel
theorem dX10_quote_76 : decode cX10_quote 76 = .ok (.aload_n 3, 1) := by decide +kernel
theorem dX10_quote_77 : decode cX10_quote 77 = .ok (.getfield 248, 3) := by decide +kernel
theorem dX10_quote_80 : decode cX10_quote 80 = .ok (.ireturn, 1) := by decide +kernel
theorem dX10_quote_81 : decode cX10_quote 81 = .ok (.aload_n 3, 1) := by decide +kernel
theorem dX10_quote_82 : decode cX10_quote 82 = .ok (.getfield 251, 3) := by decide +kernel
theorem dX10_quote_85 : decode cX10_quote 85 = .ok (.ireturn, 1) := by decide +kernel
theorem dX10_quote_86 : decode cX10_quote 86 = .ok (.aload_n 3, 1) := by decide +kernel
theorem dX10_quote_87 : decode cX10_quote 87 = .ok (.getfield 254, 3) := by decide +kernel
theorem dX10_quote_90 : decode cX10_quote 90 = .ok (.ireturn, 1) := by decide +kernel
theorem dX10_quote_91 : decode cX10_quote 91 = .ok (.aload_n 3, 1) := by decide +kernel
theorem dX10_quote_92 : decode cX10_quote 92 = .ok (.getfield 257, 3) := by decide +kernel
theorem dX10_quote_95 : decode cX10_quote 95 = .ok (.ireturn, 1) := by decide +kernel
theorem dX10_quote_96 : decode cX10_quote 96 = .ok (.aload_n 3, 1) := by decide +kernel
theorem dX10_quote_97 : decode cX10_quote 97 = .ok (.getfield 154, 3) := by decide +kernel
theorem dX10_quote_100 : decode cX10_quote 100 = .ok (.ifCond .eq 10, 3) := by decide +kernel
theorem dX10_quote_103 : decode cX10_quote 103 = .ok (.aload_n 3, 1) := by decide +kernel
theorem dX10_quote_104 : decode cX10_quote 104 = .ok (.getfield 260, 3) := by decide +kernel
theorem dX10_quote_107 : decode cX10_quote 107 = .ok (.goto 5, 3) := by decide +kernel
theorem dX10_quote_110 : decode cX10_quote 110 = .ok (.bipush (-99), 2) := by decide +kernel
theorem dX10_quote_112 : decode cX10_quote 112 = .ok (.ireturn, 1) := by decide +kernel
theorem dX10_quote_113 : decode cX10_quote 113 = .ok (.aload_n 3, 1) := by decide +kernel
theorem dX10_quote_114 : decode cX10_quote 114 = .ok (.getfield 154, 3) := by decide +kernel
theorem dX10_quote_117 : decode cX10_quote 117 = .ok (.ifCond .eq 10, 3) := by decide +kernel
theorem dX10_quote_120 : decode cX10_quote 120 = .ok (.aload_n 3, 1) := by decide +kernel
theorem dX10_quote_121 : decode cX10_quote 121 = .ok (.getfield 263, 3) := by decide +kernel
theorem dX10_quote_124 : decode cX10_quote 124 = .ok (.goto 5, 3) := by decide +kernel
theorem dX10_quote_127 : decode cX10_quote 127 = .ok (.bipush (-99), 2) := by decide +kernel
theorem dX10_quote_129 : decode cX10_quote 129 = .ok (.ireturn, 1) := by decide +kernel
theorem dX10_quote_130 : decode cX10_quote 130 = .ok (.aload_n 3, 1) := by decide +kernel
theorem dX10_quote_131 : decode cX10_quote 131 = .ok (.getfield 154, 3) := by decide +kernel
theorem dX10_quote_134 : decode cX10_quote 134 = .ok (.ifCond .eq 10, 3) := by decide +kernel
theorem dX10_quote_137 : decode cX10_quote 137 = .ok (.aload_n 3, 1) := by decide +kernel
theorem dX10_quote_138 : decode cX10_quote 138 = .ok (.getfield 266, 3) := by decide +kernel
theorem dX10_quote_141 : decode cX10_quote 141 = .ok (.goto 5, 3) := by decide +kernel
theorem dX10_quote_144 : decode cX10_quote 144 = .ok (.bipush (-99), 2) := by decide +kernel
theorem dX10_quote_146 : decode cX10_quote 146 = .ok (.ireturn, 1) := by decide +kernel
theorem dX10_quote_147 : decode cX10_quote 147 = .ok (.aload_n 0, 1) := by decide +kernel
theorem dX10_quote_148 : decode cX10_quote 148 = .ok (.invokevirtual 211, 3) := by decide +kernel
theorem dX10_quote_151 : decode cX10_quote 151 = .ok (.aload_n 0, 1) := by decide +kernel
theorem dX10_quote_152 : decode cX10_quote 152 = .ok (.getfield 12, 3) := by decide +kernel
theorem dX10_quote_155 : decode cX10_quote 155 = .ok (.getfield 53, 3) := by decide +kernel
theorem dX10_quote_158 : decode cX10_quote 158 = .ok (.aload_n 3, 1) := by decide +kernel
theorem dX10_quote_159 : decode cX10_quote 159 = .ok (.invokevirtual 269, 3) := by decide +kernel
theorem dX10_quote_162 : decode cX10_quote 162 = .ok (.ireturn, 1) := by decide +kernel
theorem dX10_quote_163 : decode cX10_quote 163 = .ok (.iconst (-1), 1) := by decide +kernel
theorem dX10_quote_164 : decode cX10_quote 164 = .ok (.ireturn, 1) := by decide +kernel
theorem dX10_module_0 : decode cX10_module 0 = .ok (.iload_n 1, 1) := by decide +kernel
theorem dX10_module_1 : decode cX10_module 1 = .ok (.invokestatic 57, 3) := by decide +kernel
theorem dX10_module_4 : decode cX10_module 4 = .ok (.ifCond .ne 5, 3) := by decide +kernel
theorem dX10_module_7 : decode cX10_module 7 = .ok (.iconst (-1), 1) := by decide +kernel
theorem dX10_module_8 : decode cX10_module 8 = .ok (.ireturn, 1) := by decide +kernel
theorem dX10_module_9 : decode cX10_module 9 = .ok (.aload_n 0, 1) := by decide +kernel
theorem dX10_module_10 : decode cX10_module 10 = .ok (.invokevirtual 211, 3) := by decide +kernel
theorem dX10_module_13 : decode cX10_module 13 = .ok (.getfield 273, 3) := by decide +kernel
theorem dX10_module_16 : decode cX10_module 16 = .ok (.iload_n 1, 1) := by decide +kernel
theorem dX10_module_17 : decode cX10_module 17 = .ok (.iaload, 1) := by decide +kernel
theorem dX10_module_18 : decode cX10_module 18 = .ok (.ireturn, 1) := by decide +kernel
theorem dX10_page_0 : decode cX10_page 0 = .ok (.iload_n 1, 1) := by decide +kernel
theorem dX10_page_1 : decode cX10_page 1 = .ok (.iconst 0, 1) := by decide +kernel
theorem dX10_page_2 : decode cX10_page 2 = .ok (.iconst 2, 1) := by decide +kernel
theorem dX10_page_3 : decode cX10_page 3 = .ok (.invokestatic 61, 3) := by decide +kernel
theorem dX10_page_6 : decode cX10_page 6 = .ok (.ifCond .ne 5, 3) := by decide +kernel
theorem dX10_page_9 : decode cX10_page 9 = .ok (.iconst (-1), 1) := by decide +kernel
theorem dX10_page_10 : decode cX10_page 10 = .ok (.ireturn, 1) := by decide +kernel
theorem dX10_page_11 : decode cX10_page 11 = .ok (.iload_n 1, 1) := by decide +kernel
theorem dX10_page_12 : decode cX10_page 12 = .ok (.bipush 120, 2) := by decide +kernel
theorem dX10_page_14 : decode cX10_page 14 = .ok (.imul, 1) := by decide +kernel
theorem dX10_page_15 : decode cX10_page 15 = .ok (.istore_n 3, 1) := by decide +kernel
theorem dX10_page_16 : decode cX10_page 16 = .ok (.iload_n 3, 1) := by decide +kernel
theorem dX10_page_17 : decode cX10_page 17 = .ok (.bipush 120, 2) := by decide +kernel
theorem dX10_page_19 : decode cX10_page 19 = .ok (.iadd, 1) := by decide +kernel
theorem dX10_page_20 : decode cX10_page 20 = .ok (.istore 4, 2) := by decide +kernel
theorem dX10_page_22 : decode cX10_page 22 = .ok (.aload_n 0, 1) := by decide +kernel
theorem dX10_page_23 : decode cX10_page 23 = .ok (.invokevirtual 211, 3) := by decide +kernel
theorem dX10_page_26 : decode cX10_page 26 = .ok (.iload_n 3, 1) := by decide +kernel
theorem dX10_page_27 : decode cX10_page 27 = .ok (.iload 4, 2) := by decide +kernel
theorem dX10_page_29 : decode cX10_page 29 = .ok (.bipush 21, 2) := by decide +kernel
theorem dX10_page_31 : decode cX10_page 31 = .ok (.invokevirtual 221, 3) := by decide +kernel
theorem dX10_page_34 : decode cX10_page 34 = .ok (.istore 5, 2) := by decide +kernel
theorem dX10_page_36 : decode cX10_page 36 = .ok (.iload_n 2, 1) := by decide +kernel
theorem dX10_page_37 : decode cX10_page 37 = .ok (.tableswitch 57 0 2 #[27, 39, 42], 27) := by decide +kernel
theorem dX10_page_64 : decode cX10_page 64 = .ok (.aload_n 0, 1) := by decide +kernel
theorem dX10_page_65 : decode cX10_page 65 = .ok (.getfield 12, 3) := by decide +kernel
theorem dX10_page_68 : decode cX10_page 68 = .ok (.getfield 53, 3) := by decide +kernel
theorem dX10_page_71 : decode cX10_page 71 = .ok (.iload_n 1, 1) := by decide +kernel
theorem dX10_page_72 : decode cX10_page 72 = .ok (.invokevirtual 276, 3) := by decide +kernel
theorem dX10_page_75 : decode cX10_page 75 = .ok (.ireturn, 1) := by decide +kernel
theorem dX10_page_76 : decode cX10_page 76 = .ok (.iload 5, 2) := by decide +kernel
theorem dX10_page_78 : decode cX10_page 78 = .ok (.ireturn, 1) := by decide +kernel
theorem dX10_page_79 : decode cX10_page 79 = .ok (.aload_n 0, 1) := by decide +kernel
theorem dX10_page_80 : decode cX10_page 80 = .ok (.invokevirtual 211, 3) := by decide +kernel
theorem dX10_page_83 : decode cX10_page 83 = .ok (.iload_n 3, 1) := by decide +kernel
theorem dX10_page_84 : decode cX10_page 84 = .ok (.iload 4, 2) := by decide +kernel
theorem dX10_page_86 : decode cX10_page 86 = .ok (.iconst 1, 1) := by decide +kernel
theorem dX10_page_87 : decode cX10_page 87 = .ok (.invokevirtual 221, 3) := by decide +kernel
theorem dX10_page_90 : decode cX10_page 90 = .ok (.iload 5, 2) := by decide +kernel
theorem dX10_page_92 : decode cX10_page 92 = .ok (.isub, 1) := by decide +kernel
theorem dX10_page_93 : decode cX10_page 93 = .ok (.ireturn, 1) := by decide +kernel
theorem dX10_page_94 : decode cX10_page 94 = .ok (.iconst (-1), 1) := by decide +kernel
theorem dX10_page_95 : decode cX10_page 95 = .ok (.ireturn, 1) := by decide +kernel
theorem dX10_roomFor_0 : decode cX10_roomFor 0 = .ok (.aload_n 0, 1) := by decide +kernel
theorem dX10_roomFor_1 : decode cX10_roomFor 1 = .ok (.getfield 12, 3) := by decide +kernel
theorem dX10_roomFor_4 : decode cX10_roomFor 4 = .ok (.getfield 53, 3) := by decide +kernel
theorem dX10_roomFor_7 : decode cX10_roomFor 7 = .ok (.iload_n 1, 1) := by decide +kernel
theorem dX10_roomFor_8 : decode cX10_roomFor 8 = .ok (.invokevirtual 78, 3) := by decide +kernel
theorem dX10_roomFor_11 : decode cX10_roomFor 11 = .ok (.ifCond .ne 5, 3) := by decide +kernel
theorem dX10_roomFor_14 : decode cX10_roomFor 14 = .ok (.iconst (-1), 1) := by decide +kernel
theorem dX10_roomFor_15 : decode cX10_roomFor 15 = .ok (.ireturn, 1) := by decide +kernel
theorem dX10_roomFor_16 : decode cX10_roomFor 16 = .ok (.aload_n 0, 1) := by decide +kernel
theorem dX10_roomFor_17 : decode cX10_roomFor 17 = .ok (.getfield 38, 3) := by decide +kernel
theorem dX10_roomFor_20 : decode cX10_roomFor 20 = .ok (.aload_n 0, 1) := by decide +kernel
theorem dX10_roomFor_21 : decode cX10_roomFor 21 = .ok (.getfield 12, 3) := by decide +kernel
theorem dX10_roomFor_24 : decode cX10_roomFor 24 = .ok (.getfield 53, 3) := by decide +kernel
theorem dX10_roomFor_27 : decode cX10_roomFor 27 = .ok (.iload_n 1, 1) := by decide +kernel
theorem dX10_roomFor_28 : decode cX10_roomFor 28 = .ok (.invokevirtual 282, 3) := by decide +kernel
theorem dX10_roomFor_31 : decode cX10_roomFor 31 = .ok (.ireturn, 1) := by decide +kernel
theorem dX10_beginAction_0 : decode cX10_beginAction 0 = .ok (.aload_n 0, 1) := by decide +kernel
theorem dX10_beginAction_1 : decode cX10_beginAction 1 = .ok (.getfield 19, 3) := by decide +kernel
theorem dX10_beginAction_4 : decode cX10_beginAction 4 = .ok (.aload_n 0, 1) := by decide +kernel
theorem dX10_beginAction_5 : decode cX10_beginAction 5 = .ok (.getfield 12, 3) := by decide +kernel
theorem dX10_beginAction_8 : decode cX10_beginAction 8 = .ok (.invokevirtual 286, 3) := by decide +kernel
theorem dX10_beginAction_11 : decode cX10_beginAction 11 = .ok (.aload_n 0, 1) := by decide +kernel
theorem dX10_beginAction_12 : decode cX10_beginAction 12 = .ok (.iconst 1, 1) := by decide +kernel
theorem dX10_beginAction_13 : decode cX10_beginAction 13 = .ok (.putfield 49, 3) := by decide +kernel
theorem dX10_beginAction_16 : decode cX10_beginAction 16 = .ok (.return_, 1) := by decide +kernel
theorem dX11_isWrongFromSentence_0 : decode cX11_isWrongFromSentence 0 = .ok (.aload_n 0, 1) := by decide +kernel
theorem dX11_isWrongFromSentence_1 : decode cX11_isWrongFromSentence 1 = .ok (.iload_n 1, 1) := by decide +kernel
theorem dX11_isWrongFromSentence_2 : decode cX11_isWrongFromSentence 2 = .ok (.invokevirtual 86, 3) := by decide +kernel
theorem dX11_isWrongFromSentence_5 : decode cX11_isWrongFromSentence 5 = .ok (.istore_n 2, 1) := by decide +kernel
theorem dX11_isWrongFromSentence_6 : decode cX11_isWrongFromSentence 6 = .ok (.iload_n 2, 1) := by decide +kernel
theorem dX11_isWrongFromSentence_7 : decode cX11_isWrongFromSentence 7 = .ok (.bipush (-99), 2) := by decide +kernel
theorem dX11_isWrongFromSentence_9 : decode cX11_isWrongFromSentence 9 = .ok (.if_icmp .eq 26, 3) := by decide +kernel
theorem dX11_isWrongFromSentence_12 : decode cX11_isWrongFromSentence 12 = .ok (.iload_n 2, 1) := by decide +kernel
theorem dX11_isWrongFromSentence_13 : decode cX11_isWrongFromSentence 13 = .ok (.aload_n 0, 1) := by decide +kernel
theorem dX11_isWrongFromSentence_14 : decode cX11_isWrongFromSentence 14 = .ok (.getfield 7, 3) := by decide +kernel
theorem dX11_isWrongFromSentence_17 : decode cX11_isWrongFromSentence 17 = .ok (.iconst 2, 1) := by decide +kernel
theorem dX11_isWrongFromSentence_18 : decode cX11_isWrongFromSentence 18 = .ok (.iaload, 1) := by decide +kernel
theorem dX11_isWrongFromSentence_19 : decode cX11_isWrongFromSentence 19 = .ok (.aload_n 0, 1) := by decide +kernel
theorem dX11_isWrongFromSentence_20 : decode cX11_isWrongFromSentence 20 = .ok (.getfield 7, 3) := by decide +kernel
theorem dX11_isWrongFromSentence_23 : decode cX11_isWrongFromSentence 23 = .ok (.iconst 3, 1) := by decide +kernel
theorem dX11_isWrongFromSentence_24 : decode cX11_isWrongFromSentence 24 = .ok (.iaload, 1) := by decide +kernel
theorem dX11_isWrongFromSentence_25 : decode cX11_isWrongFromSentence 25 = .ok (.invokestatic 44, 3) := by decide +kernel
theorem dX11_isWrongFromSentence_28 : decode cX11_isWrongFromSentence 28 = .ok (.ifCond .ne 7, 3) := by decide +kernel
theorem dX11_isWrongFromSentence_31 : decode cX11_isWrongFromSentence 31 = .ok (.iconst 1, 1) := by decide +kernel
theorem dX11_isWrongFromSentence_32 : decode cX11_isWrongFromSentence 32 = .ok (.goto 4, 3) := by decide +kernel
theorem dX11_isWrongFromSentence_35 : decode cX11_isWrongFromSentence 35 = .ok (.iconst 0, 1) := by decide +kernel
theorem dX11_isWrongFromSentence_36 : decode cX11_isWrongFromSentence 36 = .ok (.ireturn, 1) := by decide +kernel
theorem dX11_takeUp_0 : decode cX11_takeUp 0 = .ok (.aload_n 0, 1) := by decide +kernel
theorem dX11_takeUp_1 : decode cX11_takeUp 1 = .ok (.aload_n 0, 1) := by decide +kernel
theorem dX11_takeUp_2 : decode cX11_takeUp 2 = .ok (.iload_n 1, 1) := by decide +kernel
theorem dX11_takeUp_3 : decode cX11_takeUp 3 = .ok (.iconst 4, 1) := by decide +kernel
theorem dX11_takeUp_4 : decode cX11_takeUp 4 = .ok (.invokevirtual 56, 3) := by decide +kernel
theorem dX11_takeUp_7 : decode cX11_takeUp 7 = .ok (.putfield 119, 3) := by decide +kernel
theorem dX11_takeUp_10 : decode cX11_takeUp 10 = .ok (.aload_n 0, 1) := by decide +kernel
theorem dX11_takeUp_11 : decode cX11_takeUp 11 = .ok (.aload_n 0, 1) := by decide +kernel
theorem dX11_takeUp_12 : decode cX11_takeUp 12 = .ok (.iload_n 1, 1) := by decide +kernel
theorem dX11_takeUp_13 : decode cX11_takeUp 13 = .ok (.iconst 5, 1) := by decide +kernel
theorem dX11_takeUp_14 : decode cX11_takeUp 14 = .ok (.invokevirtual 56, 3) := by decide +kernel
theorem dX11_takeUp_17 : decode cX11_takeUp 17 = .ok (.putfield 122, 3) := by decide +kernel
theorem dX11_takeUp_20 : decode cX11_takeUp 20 = .ok (.aload_n 0, 1) := by decide +kernel
theorem dX11_takeUp_21 : decode cX11_takeUp 21 = .ok (.aload_n 0, 1) := by decide +kernel
theorem dX11_takeUp_22 : decode cX11_takeUp 22 = .ok (.iload_n 1, 1) := by decide +kernel
theorem dX11_takeUp_23 : decode cX11_takeUp 23 = .ok (.bipush 6, 2) := by decide +kernel
theorem dX11_takeUp_25 : decode cX11_takeUp 25 = .ok (.invokevirtual 56, 3) := by decide +kernel
theorem dX11_takeUp_28 : decode cX11_takeUp 28 = .ok (.putfield 125, 3) := by decide +kernel
theorem dX11_takeUp_31 : decode cX11_takeUp 31 = .ok (.aload_n 0, 1) := by decide +kernel
theorem dX11_takeUp_32 : decode cX11_takeUp 32 = .ok (.aload_n 0, 1) := by decide +kernel
theorem dX11_takeUp_33 : decode cX11_takeUp 33 = .ok (.iload_n 1, 1) := by decide +kernel
theorem dX11_takeUp_34 : decode cX11_takeUp 34 = .ok (.bipush 7, 2) := by decide +kernel
theorem dX11_takeUp_36 : decode cX11_takeUp 36 = .ok (.invokevirtual 56, 3) := by decide +kernel
theorem dX11_takeUp_39 : decode cX11_takeUp 39 = .ok (.putfield 128, 3) := by decide +kernel
theorem dX11_takeUp_42 : decode cX11_takeUp 42 = .ok (.aload_n 0, 1) := by decide +kernel
theorem dX11_takeUp_43 : decode cX11_takeUp 43 = .ok (.iload_n 1, 1) := by decide +kernel
theorem dX11_takeUp_44 : decode cX11_takeUp 44 = .ok (.iconst 4, 1) := by decide +kernel
theorem dX11_takeUp_45 : decode cX11_takeUp 45 = .ok (.iconst 0, 1) := by decide +kernel
theorem dX11_takeUp_46 : decode cX11_takeUp 46 = .ok (.invokevirtual 95, 3) := by decide +kernel
theorem dX11_takeUp_49 : decode cX11_takeUp 49 = .ok (.aload_n 0, 1) := by decide +kernel
theorem dX11_takeUp_50 : decode cX11_takeUp 50 = .ok (.invokevirtual 131, 3) := by decide +kernel
theorem dX11_takeUp_53 : decode cX11_takeUp 53 = .ok (.return_, 1) := by decide +kernel
theorem dX11_lift_0 : decode cX11_lift 0 = .ok (.aload_n 0, 1) := by decide +kernel
theorem dX11_lift_1 : decode cX11_lift 1 = .ok (.iconst 0, 1) := by decide +kernel
theorem dX11_lift_2 : decode cX11_lift 2 = .ok (.putfield 37, 3) := by decide +kernel
theorem dX11_lift_5 : decode cX11_lift 5 = .ok (.aload_n 0, 1) := by decide +kernel
theorem dX11_lift_6 : decode cX11_lift 6 = .ok (.iload_n 1, 1) := by decide +kernel
theorem dX11_lift_7 : decode cX11_lift 7 = .ok (.invokevirtual 176, 3) := by decide +kernel
theorem dX11_lift_10 : decode cX11_lift 10 = .ok (.ifCond .ne 5, 3) := by decide +kernel
theorem dX11_lift_13 : decode cX11_lift 13 = .ok (.iconst (-1), 1) := by decide +kernel
theorem dX11_lift_14 : decode cX11_lift 14 = .ok (.ireturn, 1) := by decide +kernel
theorem dX11_lift_15 : decode cX11_lift 15 = .ok (.aload_n 0, 1) := by decide +kernel
theorem dX11_lift_16 : decode cX11_lift 16 = .ok (.iload_n 1, 1) := by decide +kernel
theorem dX11_lift_17 : decode cX11_lift 17 = .ok (.invokevirtual 59, 3) := by decide +kernel
theorem dX11_lift_20 : decode cX11_lift 20 = .ok (.ifCond .ne 6, 3) := by decide +kernel
theorem dX11_lift_23 : decode cX11_lift 23 = .ok (.bipush (-2), 2) := by decide +kernel
theorem dX11_lift_25 : decode cX11_lift 25 = .ok (.ireturn, 1) := by decide +kernel
theorem dX11_lift_26 : decode cX11_lift 26 = .ok (.aload_n 0, 1) := by decide +kernel
theorem dX11_lift_27 : decode cX11_lift 27 = .ok (.invokevirtual 154, 3) := by decide +kernel
theorem dX11_lift_30 : decode cX11_lift 30 = .ok (.aload_n 0, 1) := by decide +kernel
theorem dX11_lift_31 : decode cX11_lift 31 = .ok (.iload_n 1, 1) := by decide +kernel
theorem dX11_lift_32 : decode cX11_lift 32 = .ok (.iconst 4, 1) := by decide +kernel
theorem dX11_lift_33 : decode cX11_lift 33 = .ok (.iconst 0, 1) := by decide +kernel
theorem dX11_lift_34 : decode cX11_lift 34 = .ok (.invokevirtual 95, 3) := by decide +kernel
theorem dX11_lift_37 : decode cX11_lift 37 = .ok (.aload_n 0, 1) := by decide +kernel
theorem dX11_lift_38 : decode cX11_lift 38 = .ok (.invokevirtual 150, 3) := by decide +kernel
theorem dX11_lift_41 : decode cX11_lift 41 = .ok (.ireturn, 1) := by decide +kernel
theorem dX11_readsItem_0 : decode cX11_readsItem 0 = .ok (.aload_n 0, 1) := by decide +kernel
theorem dX11_readsItem_1 : decode cX11_readsItem 1 = .ok (.getfield 7, 3) := by decide +kernel
theorem dX11_readsItem_4 : decode cX11_readsItem 4 = .ok (.iconst 0, 1) := by decide +kernel
theorem dX11_readsItem_5 : decode cX11_readsItem 5 = .ok (.iaload, 1) := by decide +kernel
theorem dX11_readsItem_6 : decode cX11_readsItem 6 = .ok (.bipush 6, 2) := by decide +kernel
theorem dX11_readsItem_8 : decode cX11_readsItem 8 = .ok (.if_icmp .ge 17, 3) := by decide +kernel
theorem dX11_readsItem_11 : decode cX11_readsItem 11 = .ok (.aload_n 0, 1) := by decide +kernel
theorem dX11_readsItem_12 : decode cX11_readsItem 12 = .ok (.bipush 97, 2) := by decide +kernel
theorem dX11_readsItem_14 : decode cX11_readsItem 14 = .ok (.invokevirtual 207, 3) := by decide +kernel
theorem dX11_readsItem_17 : decode cX11_readsItem 17 = .ok (.ifCond .eq 8, 3) := by decide +kernel
theorem dX11_readsItem_20 : decode cX11_readsItem 20 = .ok (.aload_n 0, 1) := by decide +kernel
theorem dX11_readsItem_21 : decode cX11_readsItem 21 = .ok (.invokevirtual 213, 3) := by decide +kernel
theorem dX11_readsItem_24 : decode cX11_readsItem 24 = .ok (.ireturn, 1) := by decide +kernel
theorem dX11_readsItem_25 : decode cX11_readsItem 25 = .ok (.aload_n 0, 1) := by decide +kernel
theorem dX11_readsItem_26 : decode cX11_readsItem 26 = .ok (.getfield 7, 3) := by decide +kernel
theorem dX11_readsItem_29 : decode cX11_readsItem 29 = .ok (.iconst 1, 1) := by decide +kernel
theorem dX11_readsItem_30 : decode cX11_readsItem 30 = .ok (.iaload, 1) := by decide +kernel
theorem dX11_readsItem_31 : decode cX11_readsItem 31 = .ok (.bipush 8, 2) := by decide +kernel
theorem dX11_readsItem_33 : decode cX11_readsItem 33 = .ok (.if_icmp .ge 23, 3) := by decide +kernel
theorem dX11_readsItem_36 : decode cX11_readsItem 36 = .ok (.aload_n 0, 1) := by decide +kernel
theorem dX11_readsItem_37 : decode cX11_readsItem 37 = .ok (.bipush 113, 2) := by decide +kernel
theorem dX11_readsItem_39 : decode cX11_readsItem 39 = .ok (.invokevirtual 207, 3) := by decide +kernel
theorem dX11_readsItem_42 : decode cX11_readsItem 42 = .ok (.ifCond .eq 14, 3) := by decide +kernel
theorem dX11_readsItem_45 : decode cX11_readsItem 45 = .ok (.aload_n 0, 1) := by decide +kernel
theorem dX11_readsItem_46 : decode cX11_readsItem 46 = .ok (.invokevirtual 216, 3) := by decide +kernel
theorem dX11_readsItem_49 : decode cX11_readsItem 49 = .ok (.ifCond .eq 7, 3) := by decide +kernel
theorem dX11_readsItem_52 : decode cX11_readsItem 52 = .ok (.iconst 1, 1) := by decide +kernel
theorem dX11_readsItem_53 : decode cX11_readsItem 53 = .ok (.goto 4, 3) := by decide +kernel
theorem dX11_readsItem_56 : decode cX11_readsItem 56 = .ok (.iconst 0, 1) := by decide +kernel
theorem dX11_readsItem_57 : decode cX11_readsItem 57 = .ok (.ireturn, 1) := by decide +kernel
theorem dX11_count_0 : decode cX11_count 0 = .ok (.aload_n 0, 1) := by decide +kernel
theorem dX11_count_1 : decode cX11_count 1 = .ok (.iconst 0, 1) := by decide +kernel
theorem dX11_count_2 : decode cX11_count 2 = .ok (.putfield 37, 3) := by decide +kernel
theorem dX11_count_5 : decode cX11_count 5 = .ok (.aload_n 0, 1) := by decide +kernel
theorem dX11_count_6 : decode cX11_count 6 = .ok (.invokevirtual 69, 3) := by decide +kernel
theorem dX11_count_9 : decode cX11_count 9 = .ok (.iload_n 1, 1) := by decide +kernel
theorem dX11_count_10 : decode cX11_count 10 = .ok (.tableswitch 159 0 12 #[66, 73, 80, 85, 85, 85, 96, 105, 114, 126, 131, 149, 154], 66) := by decide +kernel
theorem dX11_count_76 : decode cX11_count 76 = .ok (.aload_n 0, 1) := by decide +kernel
theorem dX11_count_77 : decode cX11_count 77 = .ok (.getfield 7, 3) := by decide +kernel
theorem dX11_count_80 : decode cX11_count 80 = .ok (.iconst 0, 1) := by decide +kernel
theorem dX11_count_81 : decode cX11_count 81 = .ok (.iaload, 1) := by decide +kernel
theorem dX11_count_82 : decode cX11_count 82 = .ok (.ireturn, 1) := by decide +kernel
theorem dX11_count_83 : decode cX11_count 83 = .ok (.aload_n 0, 1) := by decide +kernel
theorem dX11_count_84 : decode cX11_count 84 = .ok (.getfield 7, 3) := by decide +kernel
theorem dX11_count_87 : decode cX11_count 87 = .ok (.iconst 1, 1) := by decide +kernel
theorem dX11_count_88 : decode cX11_count 88 = .ok (.iaload, 1) := by decide +kernel
theorem dX11_count_89 : decode cX11_count 89 = .ok (.ireturn, 1) := by decide +kernel
theorem dX11_count_90 : decode cX11_count 90 = .ok (.aload_n 0, 1) := by decide +kernel
theorem dX11_count_91 : decode cX11_count 91 = .ok (.invokevirtual 188, 3) := by decide +kernel
theorem dX11_count_94 : decode cX11_count 94 = .ok (.ireturn, 1) := by decide +kernel
theorem dX11_count_95 : decode cX11_count 95 = .ok (.aload_n 0, 1) := by decide +kernel
theorem dX11_count_96 : decode cX11_count 96 = .ok (.getfield 7, 3) := by decide +kernel
theorem dX11_count_99 : decode cX11_count 99 = .ok (.iconst 2, 1) := by decide +kernel
theorem dX11_count_100 : decode cX11_count 100 = .ok (.iload_n 1, 1) := by decide +kernel
theorem dX11_count_101 : decode cX11_count 101 = .ok (.iadd, 1) := by decide +kernel
theorem dX11_count_102 : decode cX11_count 102 = .ok (.iconst 3, 1) := by decide +kernel
theorem dX11_count_103 : decode cX11_count 103 = .ok (.isub, 1) := by decide +kernel
theorem dX11_count_104 : decode cX11_count 104 = .ok (.iaload, 1) := by decide +kernel
theorem dX11_count_105 : decode cX11_count 105 = .ok (.ireturn, 1) := by decide +kernel
theorem dX11_count_106 : decode cX11_count 106 = .ok (.aload_n 0, 1) := by decide +kernel
theorem dX11_count_107 : decode cX11_count 107 = .ok (.aload_n 0, 1) := by decide +kernel
theorem dX11_count_108 : decode cX11_count 108 = .ok (.getfield 28, 3) := by decide +kernel
theorem dX11_count_111 : decode cX11_count 111 = .ok (.invokevirtual 228, 3) := by decide +kernel
theorem dX11_count_114 : decode cX11_count 114 = .ok (.ireturn, 1) := by decide +kernel
theorem dX11_count_115 : decode cX11_count 115 = .ok (.aload_n 0, 1) := by decide +kernel
theorem dX11_count_116 : decode cX11_count 116 = .ok (.aload_n 0, 1) := by decide +kernel
theorem dX11_count_117 : decode cX11_count 117 = .ok (.getfield 31, 3) := by decide +kernel
theorem dX11_count_120 : decode cX11_count 120 = .ok (.invokevirtual 228, 3) := by decide +kernel
theorem dX11_count_123 : decode cX11_count 123 = .ok (.ireturn, 1) := by decide +kernel
theorem dX11_count_124 : decode cX11_count 124 = .ok (.aload_n 0, 1) := by decide +kernel
theorem dX11_count_125 : decode cX11_count 125 = .ok (.iconst 0, 1) := by decide +kernel
theorem dX11_count_126 : decode cX11_count 126 = .ok (.sipush 360, 3) := by decide +kernel
theorem dX11_count_129 : decode cX11_count 129 = .ok (.iconst 1, 1) := by decide +kernel
theorem dX11_count_130 : decode cX11_count 130 = .ok (.bipush 99, 2) := by decide +kernel
theorem dX11_count_132 : decode cX11_count 132 = .ok (.invokevirtual 232, 3) := by decide +kernel
theorem dX11_count_135 : decode cX11_count 135 = .ok (.ireturn, 1) := by decide +kernel
theorem dX11_count_136 : decode cX11_count 136 = .ok (.aload_n 0, 1) := by decide +kernel
theorem dX11_count_137 : decode cX11_count 137 = .ok (.invokevirtual 150, 3) := by decide +kernel
theorem dX11_count_140 : decode cX11_count 140 = .ok (.ireturn, 1) := by decide +kernel
theorem dX11_count_141 : decode cX11_count 141 = .ok (.aload_n 0, 1) := by decide +kernel
theorem dX11_count_142 : decode cX11_count 142 = .ok (.getfield 7, 3) := by decide +kernel
theorem dX11_count_145 : decode cX11_count 145 = .ok (.sipush 135, 3) := by decide +kernel
theorem dX11_count_148 : decode cX11_count 148 = .ok (.iaload, 1) := by decide +kernel
theorem dX11_count_149 : decode cX11_count 149 = .ok (.aload_n 0, 1) := by decide +kernel
theorem dX11_count_150 : decode cX11_count 150 = .ok (.getfield 7, 3) := by decide +kernel
theorem dX11_count_153 : decode cX11_count 153 = .ok (.sipush 271, 3) := by decide +kernel
theorem dX11_count_156 : decode cX11_count 156 = .ok (.iaload, 1) := by decide +kernel
theorem dX11_count_157 : decode cX11_count 157 = .ok (.iadd, 1) := by decide +kernel
theorem dX11_count_158 : decode cX11_count 158 = .ok (.ireturn, 1) := by decide +kernel
theorem dX11_count_159 : decode cX11_count 159 = .ok (.aload_n 0, 1) := by decide +kernel
theorem dX11_count_160 : decode cX11_count 160 = .ok (.getfield 41, 3) := by decide +kernel
theorem dX11_count_163 : decode cX11_count 163 = .ok (.ireturn, 1) := by decide +kernel
theorem dX11_count_164 : decode cX11_count 164 = .ok (.aload_n 0, 1) := by decide +kernel
theorem dX11_count_165 : decode cX11_count 165 = .ok (.getfield 191, 3) := by decide +kernel
theorem dX11_count_168 : decode cX11_count 168 = .ok (.ireturn, 1) := by decide +kernel
theorem dX11_count_169 : decode cX11_count 169 = .ok (.iconst (-1), 1) := by decide +kernel
theorem dX11_count_170 : decode cX11_count 170 = .ok (.ireturn, 1) := by decide +kernel
theorem dX11_quote_0 : decode cX11_quote 0 = .ok (.aload_n 0, 1) := by decide +kernel
theorem dX11_quote_1 : decode cX11_quote 1 = .ok (.iconst 0, 1) := by decide +kernel
theorem dX11_quote_2 : decode cX11_quote 2 = .ok (.putfield 37, 3) := by decide +kernel
theorem dX11_quote_5 : decode cX11_quote 5 = .ok (.aload_n 0, 1) := by decide +kernel
theorem dX11_quote_6 : decode cX11_quote 6 = .ok (.iload_n 1, 1) := by decide +kernel
theorem dX11_quote_7 : decode cX11_quote 7 = .ok (.invokevirtual 176, 3) := by decide +kernel
theorem dX11_quote_10 : decode cX11_quote 10 = .ok (.ifCond .eq 13, 3) := by decide +kernel
theorem dX11_quote_13 : decode cX11_quote 13 = .ok (.iload_n 2, 1) := by decide +kernel
theorem dX11_quote_14 : decode cX11_quote 14 = .ok (.iconst 0, 1) := by decide +kernel
theorem dX11_quote_15 : decode cX11_quote 15 = .ok (.bipush 7, 2) := by decide +kernel
theorem dX11_quote_17 : decode cX11_quote 17 = .ok (.invokestatic 44, 3) := by decide +kernel
theorem dX11_quote_20 : decode cX11_quote 20 = .ok (.ifCond .ne 5, 3) := by decide +kernel
theorem dX11_quote_23 : decode cX11_quote 23 = .ok (.iconst (-1), 1) := by decide +kernel
theorem dX11_quote_24 : decode cX11_quote 24 = .ok (.ireturn, 1) := by decide +kernel
theorem dX11_quote_25 : decode cX11_quote 25 = .ok (.iload_n 2, 1) := by decide +kernel
theorem dX11_quote_26 : decode cX11_quote 26 = .ok (.iconst 4, 1) := by decide +kernel
theorem dX11_quote_27 : decode cX11_quote 27 = .ok (.if_icmp .ge 10, 3) := by decide +kernel
theorem dX11_quote_30 : decode cX11_quote 30 = .ok (.aload_n 0, 1) := by decide +kernel
theorem dX11_quote_31 : decode cX11_quote 31 = .ok (.iload_n 1, 1) := by decide +kernel
theorem dX11_quote_32 : decode cX11_quote 32 = .ok (.iload_n 2, 1) := by decide +kernel
theorem dX11_quote_33 : decode cX11_quote 33 = .ok (.invokevirtual 56, 3) := by decide +kernel
theorem dX11_quote_36 : decode cX11_quote 36 = .ok (.ireturn, 1) := by decide +kernel
theorem dX11_quote_37 : decode cX11_quote 37 = .ok (.aload_n 0, 1) := by decide +kernel
theorem dX11_quote_38 : decode cX11_quote 38 = .ok (.iload_n 1, 1) := by decide +kernel
theorem dX11_quote_39 : decode cX11_quote 39 = .ok (.invokevirtual 59, 3) := by decide +kernel
theorem dX11_quote_42 : decode cX11_quote 42 = .ok (.ifCond .ne 6, 3) := by decide +kernel
theorem dX11_quote_45 : decode cX11_quote 45 = .ok (.bipush (-99), 2) := by decide +kernel
theorem dX11_quote_47 : decode cX11_quote 47 = .ok (.ireturn, 1) := by decide +kernel
theorem dX11_quote_48 : decode cX11_quote 48 = .ok (.aload_n 0, 1) := by decide +kernel
theorem dX11_quote_49 : decode cX11_quote 49 = .ok (.invokevirtual 69, 3) := by decide +kernel
theorem dX11_quote_52 : decode cX11_quote 52 = .ok (.iload_n 2, 1) := by decide +kernel
theorem dX11_quote_53 : decode cX11_quote 53 = .ok (.bipush 7, 2) := by decide +kernel
theorem dX11_quote_55 : decode cX11_quote 55 = .ok (.if_icmp .ne 11, 3) := by decide +kernel
theorem dX11_quote_58 : decode cX11_quote 58 = .ok (.aload_n 0, 1) := by decide +kernel
theorem dX11_quote_59 : decode cX11_quote 59 = .ok (.iload_n 1, 1) := by decide +kernel
theorem dX11_quote_60 : decode cX11_quote 60 = .ok (.invokevirtual 86, 3) := by decide +kernel
theorem dX11_quote_63 : decode cX11_quote 63 = .ok (.goto 11, 3) := by decide +kernel
theorem dX11_quote_66 : decode cX11_quote 66 = .ok (.aload_n 0, 1) := by decide +kernel
theorem dX11_quote_67 : decode cX11_quote 67 = .ok (.iload_n 1, 1) := by decide +kernel
theorem dX11_quote_68 : decode cX11_quote 68 = .ok (.iload_n 2, 1) := by decide +kernel
theorem dX11_quote_69 : decode cX11_quote 69 = .ok (.iconst 1, 1) := by decide +kernel
theorem dX11_quote_70 : decode cX11_quote 70 = .ok (.iadd, 1) := by decide +kernel
theorem dX11_quote_71 : decode cX11_quote 71 = .ok (.invokevirtual 56, 3) := by decide +kernel
theorem dX11_quote_74 : decode cX11_quote 74 = .ok (.ireturn, 1) := by decide +kernel
theorem dX11_roomFor_0 : decode cX11_roomFor 0 = .ok (.aload_n 0, 1) := by decide +kernel
theorem dX11_roomFor_1 : decode cX11_roomFor 1 = .ok (.iconst 0, 1) := by decide +kernel
theorem dX11_roomFor_2 : decode cX11_roomFor 2 = .ok (.putfield 37, 3) := by decide +kernel
theorem dX11_roomFor_5 : decode cX11_roomFor 5 = .ok (.aload_n 0, 1) := by decide +kernel
theorem dX11_roomFor_6 : decode cX11_roomFor 6 = .ok (.iload_n 1, 1) := by decide +kernel
theorem dX11_roomFor_7 : decode cX11_roomFor 7 = .ok (.invokevirtual 48, 3) := by decide +kernel
theorem dX11_roomFor_10 : decode cX11_roomFor 10 = .ok (.ifCond .ne 5, 3) := by decide +kernel
theorem dX11_roomFor_13 : decode cX11_roomFor 13 = .ok (.iconst (-1), 1) := by decide +kernel
theorem dX11_roomFor_14 : decode cX11_roomFor 14 = .ok (.ireturn, 1) := by decide +kernel
theorem dX11_roomFor_15 : decode cX11_roomFor 15 = .ok (.aload_n 0, 1) := by decide +kernel
theorem dX11_roomFor_16 : decode cX11_roomFor 16 = .ok (.iload_n 1, 1) := by decide +kernel
theorem dX11_roomFor_17 : decode cX11_roomFor 17 = .ok (.iconst 1, 1) := by decide +kernel
theorem dX11_roomFor_18 : decode cX11_roomFor 18 = .ok (.invokevirtual 52, 3) := by decide +kernel
theorem dX11_roomFor_21 : decode cX11_roomFor 21 = .ok (.istore_n 2, 1) := by decide +kernel
theorem dX11_roomFor_22 : decode cX11_roomFor 22 = .ok (.aload_n 0, 1) := by decide +kernel
theorem dX11_roomFor_23 : decode cX11_roomFor 23 = .ok (.invokevirtual 131, 3) := by decide +kernel
theorem dX11_roomFor_26 : decode cX11_roomFor 26 = .ok (.iload_n 2, 1) := by decide +kernel
theorem dX11_roomFor_27 : decode cX11_roomFor 27 = .ok (.istore_n 3, 1) := by decide +kernel
theorem dX11_roomFor_28 : decode cX11_roomFor 28 = .ok (.sipush 200, 3) := by decide +kernel
theorem dX11_roomFor_31 : decode cX11_roomFor 31 = .ok (.istore 4, 2) := by decide +kernel
theorem dX11_roomFor_33 : decode cX11_roomFor 33 = .ok (.iload 4, 2) := by decide +kernel
theorem dX11_roomFor_35 : decode cX11_roomFor 35 = .ok (.iload_n 2, 1) := by decide +kernel
theorem dX11_roomFor_36 : decode cX11_roomFor 36 = .ok (.if_icmp .le 47, 3) := by decide +kernel
theorem dX11_roomFor_39 : decode cX11_roomFor 39 = .ok (.iload_n 3, 1) := by decide +kernel
theorem dX11_roomFor_40 : decode cX11_roomFor 40 = .ok (.iload_n 2, 1) := by decide +kernel
theorem dX11_roomFor_41 : decode cX11_roomFor 41 = .ok (.if_icmp .ne 42, 3) := by decide +kernel
theorem dX11_roomFor_44 : decode cX11_roomFor 44 = .ok (.aload_n 0, 1) := by decide +kernel
theorem dX11_roomFor_45 : decode cX11_roomFor 45 = .ok (.getfield 7, 3) := by decide +kernel
theorem dX11_roomFor_48 : decode cX11_roomFor 48 = .ok (.iconst 5, 1) := by decide +kernel
theorem dX11_roomFor_49 : decode cX11_roomFor 49 = .ok (.bipush 11, 2) := by decide +kernel
theorem dX11_roomFor_51 : decode cX11_roomFor 51 = .ok (.iload_n 1, 1) := by decide +kernel
theorem dX11_roomFor_52 : decode cX11_roomFor 52 = .ok (.imul, 1) := by decide +kernel
theorem dX11_roomFor_53 : decode cX11_roomFor 53 = .ok (.iadd, 1) := by decide +kernel
theorem dX11_roomFor_54 : decode cX11_roomFor 54 = .ok (.iconst 1, 1) := by decide +kernel
theorem dX11_roomFor_55 : decode cX11_roomFor 55 = .ok (.iadd, 1) := by decide +kernel
theorem dX11_roomFor_56 : decode cX11_roomFor 56 = .ok (.iload 4, 2) := by decide +kernel
theorem dX11_roomFor_58 : decode cX11_roomFor 58 = .ok (.iastore, 1) := by decide +kernel
theorem dX11_roomFor_59 : decode cX11_roomFor 59 = .ok (.aload_n 0, 1) := by decide +kernel
theorem dX11_roomFor_60 : decode cX11_roomFor 60 = .ok (.invokevirtual 69, 3) := by decide +kernel
theorem dX11_roomFor_63 : decode cX11_roomFor 63 = .ok (.aload_n 0, 1) := by decide +kernel
theorem dX11_roomFor_64 : decode cX11_roomFor 64 = .ok (.invokevirtual 108, 3) := by decide +kernel
theorem dX11_roomFor_67 : decode cX11_roomFor 67 = .ok (.ifCond .eq 7, 3) := by decide +kernel
theorem dX11_roomFor_70 : decode cX11_roomFor 70 = .ok (.iload_n 2, 1) := by decide +kernel
theorem dX11_roomFor_71 : decode cX11_roomFor 71 = .ok (.goto 5, 3) := by decide +kernel
theorem dX11_roomFor_74 : decode cX11_roomFor 74 = .ok (.iload 4, 2) := by decide +kernel
theorem dX11_roomFor_76 : decode cX11_roomFor 76 = .ok (.istore_n 3, 1) := by decide +kernel
theorem dX11_roomFor_77 : decode cX11_roomFor 77 = .ok (.iinc 4 (-1), 3) := by decide +kernel
theorem dX11_roomFor_80 : decode cX11_roomFor 80 = .ok (.goto (-47), 3) := by decide +kernel
theorem dX11_roomFor_83 : decode cX11_roomFor 83 = .ok (.aload_n 0, 1) := by decide +kernel
theorem dX11_roomFor_84 : decode cX11_roomFor 84 = .ok (.getfield 7, 3) := by decide +kernel
theorem dX11_roomFor_87 : decode cX11_roomFor 87 = .ok (.iconst 5, 1) := by decide +kernel
theorem dX11_roomFor_88 : decode cX11_roomFor 88 = .ok (.bipush 11, 2) := by decide +kernel
theorem dX11_roomFor_90 : decode cX11_roomFor 90 = .ok (.iload_n 1, 1) := by decide +kernel
theorem dX11_roomFor_91 : decode cX11_roomFor 91 = .ok (.imul, 1) := by decide +kernel
theorem dX11_roomFor_92 : decode cX11_roomFor 92 = .ok (.iadd, 1) := by decide +kernel
theorem dX11_roomFor_93 : decode cX11_roomFor 93 = .ok (.iconst 1, 1) := by decide +kernel
theorem dX11_roomFor_94 : decode cX11_roomFor 94 = .ok (.iadd, 1) := by decide +kernel
theorem dX11_roomFor_95 : decode cX11_roomFor 95 = .ok (.iload_n 2, 1) := by decide +kernel
theorem dX11_roomFor_96 : decode cX11_roomFor 96 = .ok (.iastore, 1) := by decide +kernel
theorem dX11_roomFor_97 : decode cX11_roomFor 97 = .ok (.iload_n 3, 1) := by decide +kernel
theorem dX11_roomFor_98 : decode cX11_roomFor 98 = .ok (.ireturn, 1) := by decide +kernel
theorem dX6_readItem_0 : decode cX6_readItem 0 = .ok (.aload_n 0, 1) := by decide +kernel
theorem dX6_readItem_1 : decode cX6_readItem 1 = .ok (.invokevirtual 43, 3) := by decide +kernel
theorem dX6_readItem_4 : decode cX6_readItem 4 = .ok (.istore_n 1, 1) := by decide +kernel
theorem dX6_readItem_5 : decode cX6_readItem 5 = .ok (.iload_n 1, 1) := by decide +kernel
theorem dX6_readItem_6 : decode cX6_readItem 6 = .ok (.bipush 97, 2) := by decide +kernel
theorem dX6_readItem_8 : decode cX6_readItem 8 = .ok (.if_icmp .ne 32, 3) := by decide +kernel
theorem dX6_readItem_11 : decode cX6_readItem 11 = .ok (.aload_n 0, 1) := by decide +kernel
theorem dX6_readItem_12 : decode cX6_readItem 12 = .ok (.getfield 21, 3) := by decide +kernel
theorem dX6_readItem_15 : decode cX6_readItem 15 = .ok (.getfield 50, 3) := by decide +kernel
theorem dX6_readItem_18 : decode cX6_readItem 18 = .ok (.bipush 6, 2) := by decide +kernel
theorem dX6_readItem_20 : decode cX6_readItem 20 = .ok (.if_icmp .ge 20, 3) := by decide +kernel
theorem dX6_readItem_23 : decode cX6_readItem 23 = .ok (.aload_n 0, 1) := by decide +kernel
theorem dX6_readItem_24 : decode cX6_readItem 24 = .ok (.dup, 1) := by decide +kernel
theorem dX6_readItem_25 : decode cX6_readItem 25 = .ok (.getfield 36, 3) := by decide +kernel
theorem dX6_readItem_28 : decode cX6_readItem 28 = .ok (.iconst 1, 1) := by decide +kernel
theorem dX6_readItem_29 : decode cX6_readItem 29 = .ok (.iadd, 1) := by decide +kernel
theorem dX6_readItem_30 : decode cX6_readItem 30 = .ok (.putfield 36, 3) := by decide +kernel
theorem dX6_readItem_33 : decode cX6_readItem 33 = .ok (.aload_n 0, 1) := by decide +kernel
theorem dX6_readItem_34 : decode cX6_readItem 34 = .ok (.invokevirtual 53, 3) := by decide +kernel
theorem dX6_readItem_37 : decode cX6_readItem 37 = .ok (.goto 46, 3) := by decide +kernel
theorem dX6_readItem_40 : decode cX6_readItem 40 = .ok (.iload_n 1, 1) := by decide +kernel
theorem dX6_readItem_41 : decode cX6_readItem 41 = .ok (.bipush 113, 2) := by decide +kernel
theorem dX6_readItem_43 : decode cX6_readItem 43 = .ok (.if_icmp .ne 32, 3) := by decide +kernel
theorem dX6_readItem_46 : decode cX6_readItem 46 = .ok (.aload_n 0, 1) := by decide +kernel
theorem dX6_readItem_47 : decode cX6_readItem 47 = .ok (.getfield 21, 3) := by decide +kernel
theorem dX6_readItem_50 : decode cX6_readItem 50 = .ok (.getfield 56, 3) := by decide +kernel
theorem dX6_readItem_53 : decode cX6_readItem 53 = .ok (.bipush 8, 2) := by decide +kernel
theorem dX6_readItem_55 : decode cX6_readItem 55 = .ok (.if_icmp .ge 20, 3) := by decide +kernel
theorem dX6_readItem_58 : decode cX6_readItem 58 = .ok (.aload_n 0, 1) := by decide +kernel
theorem dX6_readItem_59 : decode cX6_readItem 59 = .ok (.dup, 1) := by decide +kernel
theorem dX6_readItem_60 : decode cX6_readItem 60 = .ok (.getfield 36, 3) := by decide +kernel
theorem dX6_readItem_63 : decode cX6_readItem 63 = .ok (.iconst 1, 1) := by decide +kernel
theorem dX6_readItem_64 : decode cX6_readItem 64 = .ok (.iadd, 1) := by decide +kernel
theorem dX6_readItem_65 : decode cX6_readItem 65 = .ok (.putfield 36, 3) := by decide +kernel
theorem dX6_readItem_68 : decode cX6_readItem 68 = .ok (.aload_n 0, 1) := by decide +kernel
theorem dX6_readItem_69 : decode cX6_readItem 69 = .ok (.invokevirtual 59, 3) := by decide +kernel
theorem dX6_readItem_72 : decode cX6_readItem 72 = .ok (.goto 11, 3) := by decide +kernel
theorem dX6_readItem_75 : decode cX6_readItem 75 = .ok (.aload_n 0, 1) := by decide +kernel
theorem dX6_readItem_76 : decode cX6_readItem 76 = .ok (.aload_n 0, 1) := by decide +kernel
theorem dX6_readItem_77 : decode cX6_readItem 77 = .ok (.getfield 36, 3) := by decide +kernel
theorem dX6_readItem_80 : decode cX6_readItem 80 = .ok (.invokevirtual 62, 3) := by decide +kernel
theorem dX6_readItem_83 : decode cX6_readItem 83 = .ok (.aload_n 0, 1) := by decide +kernel
theorem dX6_readItem_84 : decode cX6_readItem 84 = .ok (.bipush 59, 2) := by decide +kernel
theorem dX6_readItem_86 : decode cX6_readItem 86 = .ok (.invokevirtual 66, 3) := by decide +kernel
theorem dX6_readItem_89 : decode cX6_readItem 89 = .ok (.return_, 1) := by decide +kernel
theorem dX9_reasonAt_0 : decode cX9_reasonAt 0 = .ok (.aload_n 0, 1) := by decide +kernel
theorem dX9_reasonAt_1 : decode cX9_reasonAt 1 = .ok (.getfield 12, 3) := by decide +kernel
theorem dX9_reasonAt_4 : decode cX9_reasonAt 4 = .ok (.getfield 36, 3) := by decide +kernel
theorem dX9_reasonAt_7 : decode cX9_reasonAt 7 = .ok (.aload_n 0, 1) := by decide +kernel
theorem dX9_reasonAt_8 : decode cX9_reasonAt 8 = .ok (.getfield 32, 3) := by decide +kernel
theorem dX9_reasonAt_11 : decode cX9_reasonAt 11 = .ok (.aaload, 1) := by decide +kernel
theorem dX9_reasonAt_12 : decode cX9_reasonAt 12 = .ok (.astore_n 2, 1) := by decide +kernel
theorem dX9_reasonAt_13 : decode cX9_reasonAt 13 = .ok (.aload_n 2, 1) := by decide +kernel
theorem dX9_reasonAt_14 : decode cX9_reasonAt 14 = .ok (.iload_n 1, 1) := by decide +kernel
theorem dX9_reasonAt_15 : decode cX9_reasonAt 15 = .ok (.invokevirtual 49, 3) := by decide +kernel
theorem dX9_reasonAt_18 : decode cX9_reasonAt 18 = .ok (.aload_n 2, 1) := by decide +kernel
theorem dX9_reasonAt_19 : decode cX9_reasonAt 19 = .ok (.getfield 53, 3) := by decide +kernel
theorem dX9_reasonAt_22 : decode cX9_reasonAt 22 = .ok (.aload_n 2, 1) := by decide +kernel
theorem dX9_reasonAt_23 : decode cX9_reasonAt 23 = .ok (.getfield 56, 3) := by decide +kernel
theorem dX9_reasonAt_26 : decode cX9_reasonAt 26 = .ok (.iadd, 1) := by decide +kernel
theorem dX9_reasonAt_27 : decode cX9_reasonAt 27 = .ok (.bipush 6, 2) := by decide +kernel
theorem dX9_reasonAt_29 : decode cX9_reasonAt 29 = .ok (.if_icmp .gt 17, 3) := by decide +kernel
theorem dX9_reasonAt_32 : decode cX9_reasonAt 32 = .ok (.aload_n 2, 1) := by decide +kernel
theorem dX9_reasonAt_33 : decode cX9_reasonAt 33 = .ok (.getfield 59, 3) := by decide +kernel
theorem dX9_reasonAt_36 : decode cX9_reasonAt 36 = .ok (.aload_n 2, 1) := by decide +kernel
theorem dX9_reasonAt_37 : decode cX9_reasonAt 37 = .ok (.getfield 62, 3) := by decide +kernel
theorem dX9_reasonAt_40 : decode cX9_reasonAt 40 = .ok (.iadd, 1) := by decide +kernel
theorem dX9_reasonAt_41 : decode cX9_reasonAt 41 = .ok (.bipush 20, 2) := by decide +kernel
theorem dX9_reasonAt_43 : decode cX9_reasonAt 43 = .ok (.if_icmp .le 5, 3) := by decide +kernel
theorem dX9_reasonAt_46 : decode cX9_reasonAt 46 = .ok (.iconst 1, 1) := by decide +kernel
theorem dX9_reasonAt_47 : decode cX9_reasonAt 47 = .ok (.ireturn, 1) := by decide +kernel
theorem dX9_reasonAt_48 : decode cX9_reasonAt 48 = .ok (.aload_n 0, 1) := by decide +kernel
theorem dX9_reasonAt_49 : decode cX9_reasonAt 49 = .ok (.aload_n 2, 1) := by decide +kernel
theorem dX9_reasonAt_50 : decode cX9_reasonAt 50 = .ok (.invokevirtual 65, 3) := by decide +kernel
theorem dX9_reasonAt_53 : decode cX9_reasonAt 53 = .ok (.ifCond .eq 5, 3) := by decide +kernel
theorem dX9_reasonAt_56 : decode cX9_reasonAt 56 = .ok (.iconst 2, 1) := by decide +kernel
theorem dX9_reasonAt_57 : decode cX9_reasonAt 57 = .ok (.ireturn, 1) := by decide +kernel
theorem dX9_reasonAt_58 : decode cX9_reasonAt 58 = .ok (.aload_n 0, 1) := by decide +kernel
theorem dX9_reasonAt_59 : decode cX9_reasonAt 59 = .ok (.getfield 25, 3) := by decide +kernel
theorem dX9_reasonAt_62 : decode cX9_reasonAt 62 = .ok (.aload_n 0, 1) := by decide +kernel
theorem dX9_reasonAt_63 : decode cX9_reasonAt 63 = .ok (.getfield 12, 3) := by decide +kernel
theorem dX9_reasonAt_66 : decode cX9_reasonAt 66 = .ok (.invokevirtual 46, 3) := by decide +kernel
theorem dX9_reasonAt_69 : decode cX9_reasonAt 69 = .ok (.aload_n 0, 1) := by decide +kernel
theorem dX9_reasonAt_70 : decode cX9_reasonAt 70 = .ok (.aload_n 2, 1) := by decide +kernel
theorem dX9_reasonAt_71 : decode cX9_reasonAt 71 = .ok (.invokevirtual 69, 3) := by decide +kernel
theorem dX9_reasonAt_74 : decode cX9_reasonAt 74 = .ok (.ireturn, 1) := by decide +kernel
theorem dX10_addArticle_0 : decode cX10_addArticle 0 = .ok (.aload_n 0, 1) := by decide +kernel
theorem dX10_addArticle_1 : decode cX10_addArticle 1 = .ok (.getfield 12, 3) := by decide +kernel
theorem dX10_addArticle_4 : decode cX10_addArticle 4 = .ok (.getfield 53, 3) := by decide +kernel
theorem dX10_addArticle_7 : decode cX10_addArticle 7 = .ok (.astore_n 3, 1) := by decide +kernel
theorem dX10_addArticle_8 : decode cX10_addArticle 8 = .ok (.iload_n 1, 1) := by decide +kernel
theorem dX10_addArticle_9 : decode cX10_addArticle 9 = .ok (.invokestatic 57, 3) := by decide +kernel
theorem dX10_addArticle_12 : decode cX10_addArticle 12 = .ok (.ifCond .eq 14, 3) := by decide +kernel
theorem dX10_addArticle_15 : decode cX10_addArticle 15 = .ok (.iload_n 2, 1) := by decide +kernel
theorem dX10_addArticle_16 : decode cX10_addArticle 16 = .ok (.iconst 1, 1) := by decide +kernel
theorem dX10_addArticle_17 : decode cX10_addArticle 17 = .ok (.sipush 200, 3) := by decide +kernel
theorem dX10_addArticle_20 : decode cX10_addArticle 20 = .ok (.invokestatic 61, 3) := by decide +kernel
theorem dX10_addArticle_23 : decode cX10_addArticle 23 = .ok (.ifCond .ne 5, 3) := by decide +kernel
theorem dX10_addArticle_26 : decode cX10_addArticle 26 = .ok (.iconst (-1), 1) := by decide +kernel
theorem dX10_addArticle_27 : decode cX10_addArticle 27 = .ok (.ireturn, 1) := by decide +kernel
theorem dX10_addArticle_28 : decode cX10_addArticle 28 = .ok (.aload_n 3, 1) := by decide +kernel
theorem dX10_addArticle_29 : decode cX10_addArticle 29 = .ok (.getfield 65, 3) := by decide +kernel
theorem dX10_addArticle_32 : decode cX10_addArticle 32 = .ok (.bipush 6, 2) := by decide +kernel
theorem dX10_addArticle_34 : decode cX10_addArticle 34 = .ok (.if_icmp .lt 6, 3) := by decide +kernel
theorem dX10_addArticle_37 : decode cX10_addArticle 37 = .ok (.bipush (-3), 2) := by decide +kernel
theorem dX10_addArticle_39 : decode cX10_addArticle 39 = .ok (.ireturn, 1) := by decide +kernel
theorem dX10_addArticle_40 : decode cX10_addArticle 40 = .ok (.aload_n 0, 1) := by decide +kernel
theorem dX10_addArticle_41 : decode cX10_addArticle 41 = .ok (.invokevirtual 71, 3) := by decide +kernel
theorem dX10_addArticle_44 : decode cX10_addArticle 44 = .ok (.aload_n 3, 1) := by decide +kernel
theorem dX10_addArticle_45 : decode cX10_addArticle 45 = .ok (.iload_n 1, 1) := by decide +kernel
theorem dX10_addArticle_46 : decode cX10_addArticle 46 = .ok (.iload_n 2, 1) := by decide +kernel
theorem dX10_addArticle_47 : decode cX10_addArticle 47 = .ok (.invokevirtual 74, 3) := by decide +kernel
theorem dX10_addArticle_50 : decode cX10_addArticle 50 = .ok (.ireturn, 1) := by decide +kernel
theorem dX10_removeArticle_0 : decode cX10_removeArticle 0 = .ok (.aload_n 0, 1) := by decide +kernel
theorem dX10_removeArticle_1 : decode cX10_removeArticle 1 = .ok (.getfield 12, 3) := by decide +kernel
theorem dX10_removeArticle_4 : decode cX10_removeArticle 4 = .ok (.getfield 53, 3) := by decide +kernel
theorem dX10_removeArticle_7 : decode cX10_removeArticle 7 = .ok (.astore_n 2, 1) := by decide +kernel
theorem dX10_removeArticle_8 : decode cX10_removeArticle 8 = .ok (.aload_n 2, 1) := by decide +kernel
theorem dX10_removeArticle_9 : decode cX10_removeArticle 9 = .ok (.iload_n 1, 1) := by decide +kernel
theorem dX10_removeArticle_10 : decode cX10_removeArticle 10 = .ok (.invokevirtual 78, 3) := by decide +kernel
theorem dX10_removeArticle_13 : decode cX10_removeArticle 13 = .ok (.ifCond .ne 5, 3) := by decide +kernel
theorem dX10_removeArticle_16 : decode cX10_removeArticle 16 = .ok (.iconst (-1), 1) := by decide +kernel
theorem dX10_removeArticle_17 : decode cX10_removeArticle 17 = .ok (.ireturn, 1) := by decide +kernel
theorem dX10_removeArticle_18 : decode cX10_removeArticle 18 = .ok (.aload_n 0, 1) := by decide +kernel
theorem dX10_removeArticle_19 : decode cX10_removeArticle 19 = .ok (.invokevirtual 71, 3) := by decide +kernel
theorem dX10_removeArticle_22 : decode cX10_removeArticle 22 = .ok (.aload_n 2, 1) := by decide +kernel
theorem dX10_removeArticle_23 : decode cX10_removeArticle 23 = .ok (.iload_n 1, 1) := by decide +kernel
theorem dX10_removeArticle_24 : decode cX10_removeArticle 24 = .ok (.invokevirtual 81, 3) := by decide +kernel
theorem dX10_removeArticle_27 : decode cX10_removeArticle 27 = .ok (.aload_n 2, 1) := by decide +kernel
theorem dX10_removeArticle_28 : decode cX10_removeArticle 28 = .ok (.getfield 65, 3) := by decide +kernel
theorem dX10_removeArticle_31 : decode cX10_removeArticle 31 = .ok (.ireturn, 1) := by decide +kernel
theorem dX10_setArticle_0 : decode cX10_setArticle 0 = .ok (.aload_n 0, 1) := by decide +kernel
theorem dX10_setArticle_1 : decode cX10_setArticle 1 = .ok (.getfield 12, 3) := by decide +kernel
theorem dX10_setArticle_4 : decode cX10_setArticle 4 = .ok (.getfield 53, 3) := by decide +kernel
theorem dX10_setArticle_7 : decode cX10_setArticle 7 = .ok (.astore 4, 2) := by decide +kernel
theorem dX10_setArticle_9 : decode cX10_setArticle 9 = .ok (.aload 4, 2) := by decide +kernel
theorem dX10_setArticle_11 : decode cX10_setArticle 11 = .ok (.iload_n 1, 1) := by decide +kernel
theorem dX10_setArticle_12 : decode cX10_setArticle 12 = .ok (.invokevirtual 78, 3) := by decide +kernel
theorem dX10_setArticle_15 : decode cX10_setArticle 15 = .ok (.ifCond .eq 12, 3) := by decide +kernel
theorem dX10_setArticle_18 : decode cX10_setArticle 18 = .ok (.iload_n 2, 1) := by decide +kernel
theorem dX10_setArticle_19 : decode cX10_setArticle 19 = .ok (.iconst 0, 1) := by decide +kernel
theorem dX10_setArticle_20 : decode cX10_setArticle 20 = .ok (.iconst 1, 1) := by decide +kernel
theorem dX10_setArticle_21 : decode cX10_setArticle 21 = .ok (.invokestatic 61, 3) := by decide +kernel
theorem dX10_setArticle_24 : decode cX10_setArticle 24 = .ok (.ifCond .ne 5, 3) := by decide +kernel
theorem dX10_setArticle_27 : decode cX10_setArticle 27 = .ok (.iconst (-1), 1) := by decide +kernel
theorem dX10_setArticle_28 : decode cX10_setArticle 28 = .ok (.ireturn, 1) := by decide +kernel
theorem dX10_setArticle_29 : decode cX10_setArticle 29 = .ok (.aload 4, 2) := by decide +kernel
theorem dX10_setArticle_31 : decode cX10_setArticle 31 = .ok (.getfield 85, 3) := by decide +kernel
theorem dX10_setArticle_34 : decode cX10_setArticle 34 = .ok (.iload_n 1, 1) := by decide +kernel
theorem dX10_setArticle_35 : decode cX10_setArticle 35 = .ok (.aaload, 1) := by decide +kernel
theorem dX10_setArticle_36 : decode cX10_setArticle 36 = .ok (.astore 5, 2) := by decide +kernel
theorem dX10_setArticle_38 : decode cX10_setArticle 38 = .ok (.iload_n 2, 1) := by decide +kernel
theorem dX10_setArticle_39 : decode cX10_setArticle 39 = .ok (.ifCond .ne 32, 3) := by decide +kernel
theorem dX10_setArticle_42 : decode cX10_setArticle 42 = .ok (.iload_n 3, 1) := by decide +kernel
theorem dX10_setArticle_43 : decode cX10_setArticle 43 = .ok (.invokestatic 57, 3) := by decide +kernel
theorem dX10_setArticle_46 : decode cX10_setArticle 46 = .ok (.ifCond .ne 5, 3) := by decide +kernel
theorem dX10_setArticle_49 : decode cX10_setArticle 49 = .ok (.iconst (-1), 1) := by decide +kernel
theorem dX10_setArticle_50 : decode cX10_setArticle 50 = .ok (.ireturn, 1) := by decide +kernel
theorem dX10_setArticle_51 : decode cX10_setArticle 51 = .ok (.aload_n 0, 1) := by decide +kernel
theorem dX10_setArticle_52 : decode cX10_setArticle 52 = .ok (.invokevirtual 71, 3) := by decide +kernel
theorem dX10_setArticle_55 : decode cX10_setArticle 55 = .ok (.aload 5, 2) := by decide +kernel
theorem dX10_setArticle_57 : decode cX10_setArticle 57 = .ok (.getfield 89, 3) := by decide +kernel
theorem dX10_setArticle_60 : decode cX10_setArticle 60 = .ok (.istore 6, 2) := by decide +kernel
theorem dX10_setArticle_62 : decode cX10_setArticle 62 = .ok (.aload 5, 2) := by decide +kernel
theorem dX10_setArticle_64 : decode cX10_setArticle 64 = .ok (.iload_n 3, 1) := by decide +kernel
theorem dX10_setArticle_65 : decode cX10_setArticle 65 = .ok (.putfield 89, 3) := by decide +kernel
theorem dX10_setArticle_68 : decode cX10_setArticle 68 = .ok (.goto 37, 3) := by decide +kernel
theorem dX10_setArticle_71 : decode cX10_setArticle 71 = .ok (.iload_n 3, 1) := by decide +kernel
theorem dX10_setArticle_72 : decode cX10_setArticle 72 = .ok (.aload 5, 2) := by decide +kernel
theorem dX10_setArticle_74 : decode cX10_setArticle 74 = .ok (.invokevirtual 94, 3) := by decide +kernel
theorem dX10_setArticle_77 : decode cX10_setArticle 77 = .ok (.sipush 200, 3) := by decide +kernel
theorem dX10_setArticle_80 : decode cX10_setArticle 80 = .ok (.invokestatic 61, 3) := by decide +kernel
theorem dX10_setArticle_83 : decode cX10_setArticle 83 = .ok (.ifCond .ne 5, 3) := by decide +kernel
theorem dX10_setArticle_86 : decode cX10_setArticle 86 = .ok (.iconst (-1), 1) := by decide +kernel
theorem dX10_setArticle_87 : decode cX10_setArticle 87 = .ok (.ireturn, 1) := by decide +kernel
theorem dX10_setArticle_88 : decode cX10_setArticle 88 = .ok (.aload_n 0, 1) := by decide +kernel
theorem dX10_setArticle_89 : decode cX10_setArticle 89 = .ok (.invokevirtual 71, 3) := by decide +kernel
theorem dX10_setArticle_92 : decode cX10_setArticle 92 = .ok (.aload 5, 2) := by decide +kernel
theorem dX10_setArticle_94 : decode cX10_setArticle 94 = .ok (.getfield 98, 3) := by decide +kernel
theorem dX10_setArticle_97 : decode cX10_setArticle 97 = .ok (.istore 6, 2) := by decide +kernel
theorem dX10_setArticle_99 : decode cX10_setArticle 99 = .ok (.aload 5, 2) := by decide +kernel
theorem dX10_setArticle_101 : decode cX10_setArticle 101 = .ok (.iload_n 3, 1) := by decide +kernel
theorem dX10_setArticle_102 : decode cX10_setArticle 102 = .ok (.putfield 98, 3) := by decide +kernel
theorem dX10_setArticle_105 : decode cX10_setArticle 105 = .ok (.iload 6, 2) := by decide +kernel
theorem dX10_setArticle_107 : decode cX10_setArticle 107 = .ok (.ireturn, 1) := by decide +kernel
theorem dX10_addSentence_0 : decode cX10_addSentence 0 = .ok (.aload_n 0, 1) := by decide +kernel
theorem dX10_addSentence_1 : decode cX10_addSentence 1 = .ok (.getfield 12, 3) := by decide +kernel
theorem dX10_addSentence_4 : decode cX10_addSentence 4 = .ok (.getfield 53, 3) := by decide +kernel
theorem dX10_addSentence_7 : decode cX10_addSentence 7 = .ok (.astore_n 3, 1) := by decide +kernel
theorem dX10_addSentence_8 : decode cX10_addSentence 8 = .ok (.aload_n 3, 1) := by decide +kernel
theorem dX10_addSentence_9 : decode cX10_addSentence 9 = .ok (.iload_n 1, 1) := by decide +kernel
theorem dX10_addSentence_10 : decode cX10_addSentence 10 = .ok (.iload_n 2, 1) := by decide +kernel
theorem dX10_addSentence_11 : decode cX10_addSentence 11 = .ok (.invokevirtual 101, 3) := by decide +kernel
theorem dX10_addSentence_14 : decode cX10_addSentence 14 = .ok (.ifCond .ne 5, 3) := by decide +kernel
theorem dX10_addSentence_17 : decode cX10_addSentence 17 = .ok (.iconst (-1), 1) := by decide +kernel
theorem dX10_addSentence_18 : decode cX10_addSentence 18 = .ok (.ireturn, 1) := by decide +kernel
theorem dX10_addSentence_19 : decode cX10_addSentence 19 = .ok (.aload_n 3, 1) := by decide +kernel
theorem dX10_addSentence_20 : decode cX10_addSentence 20 = .ok (.getfield 85, 3) := by decide +kernel
theorem dX10_addSentence_23 : decode cX10_addSentence 23 = .ok (.iload_n 1, 1) := by decide +kernel
theorem dX10_addSentence_24 : decode cX10_addSentence 24 = .ok (.aaload, 1) := by decide +kernel
theorem dX10_addSentence_25 : decode cX10_addSentence 25 = .ok (.astore 4, 2) := by decide +kernel
theorem dX10_addSentence_27 : decode cX10_addSentence 27 = .ok (.aload 4, 2) := by decide +kernel
theorem dX10_addSentence_29 : decode cX10_addSentence 29 = .ok (.getfield 105, 3) := by decide +kernel
theorem dX10_addSentence_32 : decode cX10_addSentence 32 = .ok (.bipush 8, 2) := by decide +kernel
theorem dX10_addSentence_34 : decode cX10_addSentence 34 = .ok (.if_icmp .lt 6, 3) := by decide +kernel
theorem dX10_addSentence_37 : decode cX10_addSentence 37 = .ok (.bipush (-3), 2) := by decide +kernel
theorem dX10_addSentence_39 : decode cX10_addSentence 39 = .ok (.ireturn, 1) := by decide +kernel
theorem dX10_addSentence_40 : decode cX10_addSentence 40 = .ok (.aload_n 0, 1) := by decide +kernel
theorem dX10_addSentence_41 : decode cX10_addSentence 41 = .ok (.invokevirtual 71, 3) := by decide +kernel
theorem dX10_addSentence_44 : decode cX10_addSentence 44 = .ok (.aload 4, 2) := by decide +kernel
theorem dX10_addSentence_46 : decode cX10_addSentence 46 = .ok (.iload_n 2, 1) := by decide +kernel
theorem dX10_addSentence_47 : decode cX10_addSentence 47 = .ok (.invokevirtual 108, 3) := by decide +kernel
theorem dX10_addSentence_50 : decode cX10_addSentence 50 = .ok (.ireturn, 1) := by decide +kernel
theorem dX10_addQuote_0 : decode cX10_addQuote 0 = .ok (.aload_n 0, 1) := by decide +kernel
theorem dX10_addQuote_1 : decode cX10_addQuote 1 = .ok (.getfield 12, 3) := by decide +kernel
theorem dX10_addQuote_4 : decode cX10_addQuote 4 = .ok (.getfield 53, 3) := by decide +kernel
theorem dX10_addQuote_7 : decode cX10_addQuote 7 = .ok (.astore 5, 2) := by decide +kernel
theorem dX10_addQuote_9 : decode cX10_addQuote 9 = .ok (.aload 5, 2) := by decide +kernel
theorem dX10_addQuote_11 : decode cX10_addQuote 11 = .ok (.iload_n 1, 1) := by decide +kernel
theorem dX10_addQuote_12 : decode cX10_addQuote 12 = .ok (.iload_n 2, 1) := by decide +kernel
theorem dX10_addQuote_13 : decode cX10_addQuote 13 = .ok (.invokevirtual 112, 3) := by decide +kernel
theorem dX10_addQuote_16 : decode cX10_addQuote 16 = .ok (.ifCond .eq 23, 3) := by decide +kernel
theorem dX10_addQuote_19 : decode cX10_addQuote 19 = .ok (.iload_n 3, 1) := by decide +kernel
theorem dX10_addQuote_20 : decode cX10_addQuote 20 = .ok (.iconst 1, 1) := by decide +kernel
theorem dX10_addQuote_21 : decode cX10_addQuote 21 = .ok (.iconst 3, 1) := by decide +kernel
theorem dX10_addQuote_22 : decode cX10_addQuote 22 = .ok (.invokestatic 61, 3) := by decide +kernel
theorem dX10_addQuote_25 : decode cX10_addQuote 25 = .ok (.ifCond .eq 14, 3) := by decide +kernel
theorem dX10_addQuote_28 : decode cX10_addQuote 28 = .ok (.iload 4, 2) := by decide +kernel
theorem dX10_addQuote_30 : decode cX10_addQuote 30 = .ok (.iconst 1, 1) := by decide +kernel
theorem dX10_addQuote_31 : decode cX10_addQuote 31 = .ok (.bipush 6, 2) := by decide +kernel
theorem dX10_addQuote_33 : decode cX10_addQuote 33 = .ok (.invokestatic 61, 3) := by decide +kernel
theorem dX10_addQuote_36 : decode cX10_addQuote 36 = .ok (.ifCond .ne 5, 3) := by decide +kernel
theorem dX10_addQuote_39 : decode cX10_addQuote 39 = .ok (.iconst (-1), 1) := by decide +kernel
theorem dX10_addQuote_40 : decode cX10_addQuote 40 = .ok (.ireturn, 1) := by decide +kernel
theorem dX10_addQuote_41 : decode cX10_addQuote 41 = .ok (.aload 5, 2) := by decide +kernel
theorem dX10_addQuote_43 : decode cX10_addQuote 43 = .ok (.getfield 115, 3) := by decide +kernel
theorem dX10_addQuote_46 : decode cX10_addQuote 46 = .ok (.bipush 8, 2) := by decide +kernel
theorem dX10_addQuote_48 : decode cX10_addQuote 48 = .ok (.if_icmp .lt 6, 3) := by decide +kernel
theorem dX10_addQuote_51 : decode cX10_addQuote 51 = .ok (.bipush (-3), 2) := by decide +kernel
theorem dX10_addQuote_53 : decode cX10_addQuote 53 = .ok (.ireturn, 1) := by decide +kernel
theorem dX10_addQuote_54 : decode cX10_addQuote 54 = .ok (.aload_n 0, 1) := by decide +kernel
theorem dX10_addQuote_55 : decode cX10_addQuote 55 = .ok (.invokevirtual 71, 3) := by decide +kernel
theorem dX10_addQuote_58 : decode cX10_addQuote 58 = .ok (.aload 5, 2) := by decide +kernel
theorem dX10_addQuote_60 : decode cX10_addQuote 60 = .ok (.iload_n 1, 1) := by decide +kernel
theorem dX10_addQuote_61 : decode cX10_addQuote 61 = .ok (.iload_n 2, 1) := by decide +kernel
theorem dX10_addQuote_62 : decode cX10_addQuote 62 = .ok (.iload_n 3, 1) := by decide +kernel
theorem dX10_addQuote_63 : decode cX10_addQuote 63 = .ok (.iload 4, 2) := by decide +kernel
theorem dX10_addQuote_65 : decode cX10_addQuote 65 = .ok (.invokevirtual 118, 3) := by decide +kernel
theorem dX10_addQuote_68 : decode cX10_addQuote 68 = .ok (.ireturn, 1) := by decide +kernel
theorem dX10_removeQuote_0 : decode cX10_removeQuote 0 = .ok (.aload_n 0, 1) := by decide +kernel
theorem dX10_removeQuote_1 : decode cX10_removeQuote 1 = .ok (.getfield 12, 3) := by decide +kernel
theorem dX10_removeQuote_4 : decode cX10_removeQuote 4 = .ok (.getfield 53, 3) := by decide +kernel
theorem dX10_removeQuote_7 : decode cX10_removeQuote 7 = .ok (.astore_n 2, 1) := by decide +kernel
theorem dX10_removeQuote_8 : decode cX10_removeQuote 8 = .ok (.aload_n 2, 1) := by decide +kernel
theorem dX10_removeQuote_9 : decode cX10_removeQuote 9 = .ok (.iload_n 1, 1) := by decide +kernel
theorem dX10_removeQuote_10 : decode cX10_removeQuote 10 = .ok (.invokevirtual 122, 3) := by decide +kernel
theorem dX10_removeQuote_13 : decode cX10_removeQuote 13 = .ok (.ifCond .ne 5, 3) := by decide +kernel
theorem dX10_removeQuote_16 : decode cX10_removeQuote 16 = .ok (.iconst (-1), 1) := by decide +kernel
theorem dX10_removeQuote_17 : decode cX10_removeQuote 17 = .ok (.ireturn, 1) := by decide +kernel
theorem dX10_removeQuote_18 : decode cX10_removeQuote 18 = .ok (.aload_n 0, 1) := by decide +kernel
theorem dX10_removeQuote_19 : decode cX10_removeQuote 19 = .ok (.invokevirtual 71, 3) := by decide +kernel
theorem dX10_removeQuote_22 : decode cX10_removeQuote 22 = .ok (.aload_n 2, 1) := by decide +kernel
theorem dX10_removeQuote_23 : decode cX10_removeQuote 23 = .ok (.iload_n 1, 1) := by decide +kernel
theorem dX10_removeQuote_24 : decode cX10_removeQuote 24 = .ok (.invokevirtual 125, 3) := by decide +kernel
theorem dX10_removeQuote_27 : decode cX10_removeQuote 27 = .ok (.aload_n 2, 1) := by decide +kernel
theorem dX10_removeQuote_28 : decode cX10_removeQuote 28 = .ok (.getfield 115, 3) := by decide +kernel
theorem dX10_removeQuote_31 : decode cX10_removeQuote 31 = .ok (.ireturn, 1) := by decide +kernel
theorem dX10_lift_0 : decode cX10_lift 0 = .ok (.aload_n 0, 1) := by decide +kernel
theorem dX10_lift_1 : decode cX10_lift 1 = .ok (.getfield 12, 3) := by decide +kernel
theorem dX10_lift_4 : decode cX10_lift 4 = .ok (.getfield 53, 3) := by decide +kernel
theorem dX10_lift_7 : decode cX10_lift 7 = .ok (.astore_n 2, 1) := by decide +kernel
theorem dX10_lift_8 : decode cX10_lift 8 = .ok (.aload_n 2, 1) := by decide +kernel
theorem dX10_lift_9 : decode cX10_lift 9 = .ok (.iload_n 1, 1) := by decide +kernel
theorem dX10_lift_10 : decode cX10_lift 10 = .ok (.invokevirtual 122, 3) := by decide +kernel
theorem dX10_lift_13 : decode cX10_lift 13 = .ok (.ifCond .ne 5, 3) := by decide +kernel
theorem dX10_lift_16 : decode cX10_lift 16 = .ok (.iconst (-1), 1) := by decide +kernel
theorem dX10_lift_17 : decode cX10_lift 17 = .ok (.ireturn, 1) := by decide +kernel
theorem dX10_lift_18 : decode cX10_lift 18 = .ok (.aload_n 2, 1) := by decide +kernel
theorem dX10_lift_19 : decode cX10_lift 19 = .ok (.getfield 142, 3) := by decide +kernel
theorem dX10_lift_22 : decode cX10_lift 22 = .ok (.iload_n 1, 1) := by decide +kernel
theorem dX10_lift_23 : decode cX10_lift 23 = .ok (.aaload, 1) := by decide +kernel
theorem dX10_lift_24 : decode cX10_lift 24 = .ok (.getfield 154, 3) := by decide +kernel
theorem dX10_lift_27 : decode cX10_lift 27 = .ok (.ifCond .ne 6, 3) := by decide +kernel
theorem dX10_lift_30 : decode cX10_lift 30 = .ok (.bipush (-2), 2) := by decide +kernel
theorem dX10_lift_32 : decode cX10_lift 32 = .ok (.ireturn, 1) := by decide +kernel
theorem dX10_lift_33 : decode cX10_lift 33 = .ok (.aload_n 0, 1) := by decide +kernel
theorem dX10_lift_34 : decode cX10_lift 34 = .ok (.invokevirtual 71, 3) := by decide +kernel
theorem dX10_lift_37 : decode cX10_lift 37 = .ok (.aload_n 2, 1) := by decide +kernel
theorem dX10_lift_38 : decode cX10_lift 38 = .ok (.getfield 142, 3) := by decide +kernel
theorem dX10_lift_41 : decode cX10_lift 41 = .ok (.iload_n 1, 1) := by decide +kernel
theorem dX10_lift_42 : decode cX10_lift 42 = .ok (.aaload, 1) := by decide +kernel
theorem dX10_lift_43 : decode cX10_lift 43 = .ok (.iconst 0, 1) := by decide +kernel
theorem dX10_lift_44 : decode cX10_lift 44 = .ok (.putfield 154, 3) := by decide +kernel
theorem dX10_lift_47 : decode cX10_lift 47 = .ok (.aload_n 2, 1) := by decide +kernel
theorem dX10_lift_48 : decode cX10_lift 48 = .ok (.invokevirtual 151, 3) := by decide +kernel
theorem dX10_lift_51 : decode cX10_lift 51 = .ok (.ireturn, 1) := by decide +kernel
theorem dX10_setRule_0 : decode cX10_setRule 0 = .ok (.aload_n 0, 1) := by decide +kernel
theorem dX10_setRule_1 : decode cX10_setRule 1 = .ok (.getfield 12, 3) := by decide +kernel
theorem dX10_setRule_4 : decode cX10_setRule 4 = .ok (.getfield 53, 3) := by decide +kernel
theorem dX10_setRule_7 : decode cX10_setRule 7 = .ok (.getfield 163, 3) := by decide +kernel
theorem dX10_setRule_10 : decode cX10_setRule 10 = .ok (.astore_n 3, 1) := by decide +kernel
theorem dX10_setRule_11 : decode cX10_setRule 11 = .ok (.iload_n 1, 1) := by decide +kernel
theorem dX10_setRule_12 : decode cX10_setRule 12 = .ok (.iconst 0, 1) := by decide +kernel
theorem dX10_setRule_13 : decode cX10_setRule 13 = .ok (.iconst 2, 1) := by decide +kernel
theorem dX10_setRule_14 : decode cX10_setRule 14 = .ok (.invokestatic 61, 3) := by decide +kernel
theorem dX10_setRule_17 : decode cX10_setRule 17 = .ok (.ifCond .ne 5, 3) := by decide +kernel
theorem dX10_setRule_20 : decode cX10_setRule 20 = .ok (.iconst (-1), 1) := by decide +kernel
theorem dX10_setRule_21 : decode cX10_setRule 21 = .ok (.ireturn, 1) := by decide +kernel
theorem dX10_setRule_22 : decode cX10_setRule 22 = .ok (.iload_n 1, 1) := by decide +kernel
theorem dX10_setRule_23 : decode cX10_setRule 23 = .ok (.ifCond .ne 30, 3) := by decide +kernel
theorem dX10_setRule_26 : decode cX10_setRule 26 = .ok (.iload_n 2, 1) := by decide +kernel
theorem dX10_setRule_27 : decode cX10_setRule 27 = .ok (.iconst 0, 1) := by decide +kernel
theorem dX10_setRule_28 : decode cX10_setRule 28 = .ok (.bipush 10, 2) := by decide +kernel
theorem dX10_setRule_30 : decode cX10_setRule 30 = .ok (.invokestatic 61, 3) := by decide +kernel
theorem dX10_setRule_33 : decode cX10_setRule 33 = .ok (.ifCond .eq 14, 3) := by decide +kernel
theorem dX10_setRule_36 : decode cX10_setRule 36 = .ok (.iload_n 2, 1) := by decide +kernel
theorem dX10_setRule_37 : decode cX10_setRule 37 = .ok (.aload_n 3, 1) := by decide +kernel
theorem dX10_setRule_38 : decode cX10_setRule 38 = .ok (.iconst 1, 1) := by decide +kernel
theorem dX10_setRule_39 : decode cX10_setRule 39 = .ok (.iaload, 1) := by decide +kernel
theorem dX10_setRule_40 : decode cX10_setRule 40 = .ok (.if_icmp .gt 7, 3) := by decide +kernel
theorem dX10_setRule_43 : decode cX10_setRule 43 = .ok (.iconst 1, 1) := by decide +kernel
theorem dX10_setRule_44 : decode cX10_setRule 44 = .ok (.goto 4, 3) := by decide +kernel
theorem dX10_setRule_47 : decode cX10_setRule 47 = .ok (.iconst 0, 1) := by decide +kernel
theorem dX10_setRule_48 : decode cX10_setRule 48 = .ok (.istore 4, 2) := by decide +kernel
theorem dX10_setRule_50 : decode cX10_setRule 50 = .ok (.goto 44, 3) := by decide +kernel
theorem dX10_setRule_53 : decode cX10_setRule 53 = .ok (.iload_n 1, 1) := by decide +kernel
theorem dX10_setRule_54 : decode cX10_setRule 54 = .ok (.iconst 1, 1) := by decide +kernel
theorem dX10_setRule_55 : decode cX10_setRule 55 = .ok (.if_icmp .ne 30, 3) := by decide +kernel
theorem dX10_setRule_58 : decode cX10_setRule 58 = .ok (.iload_n 2, 1) := by decide +kernel
theorem dX10_setRule_59 : decode cX10_setRule 59 = .ok (.iconst 0, 1) := by decide +kernel
theorem dX10_setRule_60 : decode cX10_setRule 60 = .ok (.bipush 20, 2) := by decide +kernel
theorem dX10_setRule_62 : decode cX10_setRule 62 = .ok (.invokestatic 61, 3) := by decide +kernel
theorem dX10_setRule_65 : decode cX10_setRule 65 = .ok (.ifCond .eq 14, 3) := by decide +kernel
theorem dX10_setRule_68 : decode cX10_setRule 68 = .ok (.iload_n 2, 1) := by decide +kernel
theorem dX10_setRule_69 : decode cX10_setRule 69 = .ok (.aload_n 3, 1) := by decide +kernel
theorem dX10_setRule_70 : decode cX10_setRule 70 = .ok (.iconst 0, 1) := by decide +kernel
theorem dX10_setRule_71 : decode cX10_setRule 71 = .ok (.iaload, 1) := by decide +kernel
theorem dX10_setRule_72 : decode cX10_setRule 72 = .ok (.if_icmp .lt 7, 3) := by decide +kernel
theorem dX10_setRule_75 : decode cX10_setRule 75 = .ok (.iconst 1, 1) := by decide +kernel
theorem dX10_setRule_76 : decode cX10_setRule 76 = .ok (.goto 4, 3) := by decide +kernel
theorem dX10_setRule_79 : decode cX10_setRule 79 = .ok (.iconst 0, 1) := by decide +kernel
theorem dX10_setRule_80 : decode cX10_setRule 80 = .ok (.istore 4, 2) := by decide +kernel
theorem dX10_setRule_82 : decode cX10_setRule 82 = .ok (.goto 12, 3) := by decide +kernel
theorem dX10_setRule_85 : decode cX10_setRule 85 = .ok (.iload_n 2, 1) := by decide +kernel
theorem dX10_setRule_86 : decode cX10_setRule 86 = .ok (.iconst 1, 1) := by decide +kernel
theorem dX10_setRule_87 : decode cX10_setRule 87 = .ok (.bipush 10, 2) := by decide +kernel
theorem dX10_setRule_89 : decode cX10_setRule 89 = .ok (.invokestatic 61, 3) := by decide +kernel
theorem dX10_setRule_92 : decode cX10_setRule 92 = .ok (.istore 4, 2) := by decide +kernel
theorem dX10_setRule_94 : decode cX10_setRule 94 = .ok (.iload 4, 2) := by decide +kernel
theorem dX10_setRule_96 : decode cX10_setRule 96 = .ok (.ifCond .ne 5, 3) := by decide +kernel
theorem dX10_setRule_99 : decode cX10_setRule 99 = .ok (.iconst (-1), 1) := by decide +kernel
theorem dX10_setRule_100 : decode cX10_setRule 100 = .ok (.ireturn, 1) := by decide +kernel
theorem dX10_setRule_101 : decode cX10_setRule 101 = .ok (.aload_n 0, 1) := by decide +kernel
theorem dX10_setRule_102 : decode cX10_setRule 102 = .ok (.invokevirtual 71, 3) := by decide +kernel
theorem dX10_setRule_105 : decode cX10_setRule 105 = .ok (.aload_n 3, 1) := by decide +kernel
theorem dX10_setRule_106 : decode cX10_setRule 106 = .ok (.iload_n 1, 1) := by decide +kernel
theorem dX10_setRule_107 : decode cX10_setRule 107 = .ok (.iaload, 1) := by decide +kernel
theorem dX10_setRule_108 : decode cX10_setRule 108 = .ok (.istore 5, 2) := by decide +kernel
theorem dX10_setRule_110 : decode cX10_setRule 110 = .ok (.aload_n 3, 1) := by decide +kernel
theorem dX10_setRule_111 : decode cX10_setRule 111 = .ok (.iload_n 1, 1) := by decide +kernel
theorem dX10_setRule_112 : decode cX10_setRule 112 = .ok (.iload_n 2, 1) := by decide +kernel
theorem dX10_setRule_113 : decode cX10_setRule 113 = .ok (.iastore, 1) := by decide +kernel
theorem dX10_setRule_114 : decode cX10_setRule 114 = .ok (.iload 5, 2) := by decide +kernel
theorem dX10_setRule_116 : decode cX10_setRule 116 = .ok (.ireturn, 1) := by decide +kernel
theorem dX10_take_0 : decode cX10_take 0 = .ok (.iload_n 1, 1) := by decide +kernel
theorem dX10_take_1 : decode cX10_take 1 = .ok (.iconst 0, 1) := by decide +kernel
theorem dX10_take_2 : decode cX10_take 2 = .ok (.iconst 1, 1) := by decide +kernel
theorem dX10_take_3 : decode cX10_take 3 = .ok (.invokestatic 61, 3) := by decide +kernel
theorem dX10_take_6 : decode cX10_take 6 = .ok (.ifCond .ne 5, 3) := by decide +kernel
theorem dX10_take_9 : decode cX10_take 9 = .ok (.iconst (-1), 1) := by decide +kernel
theorem dX10_take_10 : decode cX10_take 10 = .ok (.ireturn, 1) := by decide +kernel
theorem dX10_take_11 : decode cX10_take 11 = .ok (.aload_n 0, 1) := by decide +kernel
theorem dX10_take_12 : decode cX10_take 12 = .ok (.invokevirtual 71, 3) := by decide +kernel
theorem dX10_take_15 : decode cX10_take 15 = .ok (.aload_n 0, 1) := by decide +kernel
theorem dX10_take_16 : decode cX10_take 16 = .ok (.getfield 12, 3) := by decide +kernel
theorem dX10_take_19 : decode cX10_take 19 = .ok (.getfield 167, 3) := by decide +kernel
theorem dX10_take_22 : decode cX10_take 22 = .ok (.iload_n 1, 1) := by decide +kernel
theorem dX10_take_23 : decode cX10_take 23 = .ok (.aaload, 1) := by decide +kernel
theorem dX10_take_24 : decode cX10_take 24 = .ok (.aload_n 0, 1) := by decide +kernel
theorem dX10_take_25 : decode cX10_take 25 = .ok (.getfield 12, 3) := by decide +kernel
theorem dX10_take_28 : decode cX10_take 28 = .ok (.getfield 53, 3) := by decide +kernel
theorem dX10_take_31 : decode cX10_take 31 = .ok (.invokevirtual 171, 3) := by decide +kernel
theorem dX10_take_34 : decode cX10_take 34 = .ok (.aload_n 0, 1) := by decide +kernel
theorem dX10_take_35 : decode cX10_take 35 = .ok (.getfield 12, 3) := by decide +kernel
theorem dX10_take_38 : decode cX10_take 38 = .ok (.getfield 175, 3) := by decide +kernel
theorem dX10_take_41 : decode cX10_take 41 = .ok (.iload_n 1, 1) := by decide +kernel
theorem dX10_take_42 : decode cX10_take 42 = .ok (.iconst 1, 1) := by decide +kernel
theorem dX10_take_43 : decode cX10_take 43 = .ok (.bastore, 1) := by decide +kernel
theorem dX10_take_44 : decode cX10_take 44 = .ok (.aload_n 0, 1) := by decide +kernel
theorem dX10_take_45 : decode cX10_take 45 = .ok (.getfield 12, 3) := by decide +kernel
theorem dX10_take_48 : decode cX10_take 48 = .ok (.getfield 53, 3) := by decide +kernel
theorem dX10_take_51 : decode cX10_take 51 = .ok (.invokevirtual 179, 3) := by decide +kernel
theorem dX10_take_54 : decode cX10_take 54 = .ok (.ireturn, 1) := by decide +kernel
theorem dX10_restore_0 : decode cX10_restore 0 = .ok (.iload_n 1, 1) := by decide +kernel
theorem dX10_restore_1 : decode cX10_restore 1 = .ok (.iconst 0, 1) := by decide +kernel
theorem dX10_restore_2 : decode cX10_restore 2 = .ok (.iconst 1, 1) := by decide +kernel
theorem dX10_restore_3 : decode cX10_restore 3 = .ok (.invokestatic 61, 3) := by decide +kernel
theorem dX10_restore_6 : decode cX10_restore 6 = .ok (.ifCond .ne 5, 3) := by decide +kernel
theorem dX10_restore_9 : decode cX10_restore 9 = .ok (.iconst (-1), 1) := by decide +kernel
theorem dX10_restore_10 : decode cX10_restore 10 = .ok (.ireturn, 1) := by decide +kernel
theorem dX10_restore_11 : decode cX10_restore 11 = .ok (.aload_n 0, 1) := by decide +kernel
theorem dX10_restore_12 : decode cX10_restore 12 = .ok (.getfield 12, 3) := by decide +kernel
theorem dX10_restore_15 : decode cX10_restore 15 = .ok (.getfield 175, 3) := by decide +kernel
theorem dX10_restore_18 : decode cX10_restore 18 = .ok (.iload_n 1, 1) := by decide +kernel
theorem dX10_restore_19 : decode cX10_restore 19 = .ok (.baload, 1) := by decide +kernel
theorem dX10_restore_20 : decode cX10_restore 20 = .ok (.ifCond .ne 6, 3) := by decide +kernel
theorem dX10_restore_23 : decode cX10_restore 23 = .ok (.bipush (-2), 2) := by decide +kernel
theorem dX10_restore_25 : decode cX10_restore 25 = .ok (.ireturn, 1) := by decide +kernel
theorem dX10_restore_26 : decode cX10_restore 26 = .ok (.aload_n 0, 1) := by decide +kernel
theorem dX10_restore_27 : decode cX10_restore 27 = .ok (.invokevirtual 71, 3) := by decide +kernel
theorem dX10_restore_30 : decode cX10_restore 30 = .ok (.aload_n 0, 1) := by decide +kernel
theorem dX10_restore_31 : decode cX10_restore 31 = .ok (.getfield 12, 3) := by decide +kernel
theorem dX10_restore_34 : decode cX10_restore 34 = .ok (.getfield 53, 3) := by decide +kernel
theorem dX10_restore_37 : decode cX10_restore 37 = .ok (.aload_n 0, 1) := by decide +kernel
theorem dX10_restore_38 : decode cX10_restore 38 = .ok (.getfield 12, 3) := by decide +kernel
theorem dX10_restore_41 : decode cX10_restore 41 = .ok (.getfield 167, 3) := by decide +kernel
theorem dX10_restore_44 : decode cX10_restore 44 = .ok (.iload_n 1, 1) := by decide +kernel
theorem dX10_restore_45 : decode cX10_restore 45 = .ok (.aaload, 1) := by decide +kernel
theorem dX10_restore_46 : decode cX10_restore 46 = .ok (.invokevirtual 171, 3) := by decide +kernel
theorem dX10_restore_49 : decode cX10_restore 49 = .ok (.aload_n 0, 1) := by decide +kernel
theorem dX10_restore_50 : decode cX10_restore 50 = .ok (.getfield 12, 3) := by decide +kernel
theorem dX10_restore_53 : decode cX10_restore 53 = .ok (.getfield 53, 3) := by decide +kernel
theorem dX10_restore_56 : decode cX10_restore 56 = .ok (.invokevirtual 179, 3) := by decide +kernel
theorem dX10_restore_59 : decode cX10_restore 59 = .ok (.ireturn, 1) := by decide +kernel
theorem dX11_isWrongForOthers_0 : decode cX11_isWrongForOthers 0 = .ok (.iconst 0, 1) := by decide +kernel
theorem dX11_isWrongForOthers_1 : decode cX11_isWrongForOthers 1 = .ok (.istore_n 2, 1) := by decide +kernel
theorem dX11_isWrongForOthers_2 : decode cX11_isWrongForOthers 2 = .ok (.iconst 0, 1) := by decide +kernel
theorem dX11_isWrongForOthers_3 : decode cX11_isWrongForOthers 3 = .ok (.istore_n 3, 1) := by decide +kernel
theorem dX11_isWrongForOthers_4 : decode cX11_isWrongForOthers 4 = .ok (.iload_n 3, 1) := by decide +kernel
theorem dX11_isWrongForOthers_5 : decode cX11_isWrongForOthers 5 = .ok (.aload_n 0, 1) := by decide +kernel
theorem dX11_isWrongForOthers_6 : decode cX11_isWrongForOthers 6 = .ok (.getfield 7, 3) := by decide +kernel
theorem dX11_isWrongForOthers_9 : decode cX11_isWrongForOthers 9 = .ok (.iconst 1, 1) := by decide +kernel
theorem dX11_isWrongForOthers_10 : decode cX11_isWrongForOthers 10 = .ok (.iaload, 1) := by decide +kernel
theorem dX11_isWrongForOthers_11 : decode cX11_isWrongForOthers 11 = .ok (.if_icmp .ge 40, 3) := by decide +kernel
theorem dX11_isWrongForOthers_14 : decode cX11_isWrongForOthers 14 = .ok (.iload_n 2, 1) := by decide +kernel
theorem dX11_isWrongForOthers_15 : decode cX11_isWrongForOthers 15 = .ok (.ifCond .ne 24, 3) := by decide +kernel
theorem dX11_isWrongForOthers_18 : decode cX11_isWrongForOthers 18 = .ok (.iload_n 3, 1) := by decide +kernel
theorem dX11_isWrongForOthers_19 : decode cX11_isWrongForOthers 19 = .ok (.iload_n 1, 1) := by decide +kernel
theorem dX11_isWrongForOthers_20 : decode cX11_isWrongForOthers 20 = .ok (.if_icmp .eq 23, 3) := by decide +kernel
theorem dX11_isWrongForOthers_23 : decode cX11_isWrongForOthers 23 = .ok (.aload_n 0, 1) := by decide +kernel
theorem dX11_isWrongForOthers_24 : decode cX11_isWrongForOthers 24 = .ok (.iload_n 3, 1) := by decide +kernel
theorem dX11_isWrongForOthers_25 : decode cX11_isWrongForOthers 25 = .ok (.invokevirtual 59, 3) := by decide +kernel
theorem dX11_isWrongForOthers_28 : decode cX11_isWrongForOthers 28 = .ok (.ifCond .eq 15, 3) := by decide +kernel
theorem dX11_isWrongForOthers_31 : decode cX11_isWrongForOthers 31 = .ok (.aload_n 0, 1) := by decide +kernel
theorem dX11_isWrongForOthers_32 : decode cX11_isWrongForOthers 32 = .ok (.iload_n 3, 1) := by decide +kernel
theorem dX11_isWrongForOthers_33 : decode cX11_isWrongForOthers 33 = .ok (.invokevirtual 102, 3) := by decide +kernel
theorem dX11_isWrongForOthers_36 : decode cX11_isWrongForOthers 36 = .ok (.ifCond .eq 7, 3) := by decide +kernel
theorem dX11_isWrongForOthers_39 : decode cX11_isWrongForOthers 39 = .ok (.iconst 1, 1) := by decide +kernel
theorem dX11_isWrongForOthers_40 : decode cX11_isWrongForOthers 40 = .ok (.goto 4, 3) := by decide +kernel
theorem dX11_isWrongForOthers_43 : decode cX11_isWrongForOthers 43 = .ok (.iconst 0, 1) := by decide +kernel
theorem dX11_isWrongForOthers_44 : decode cX11_isWrongForOthers 44 = .ok (.istore_n 2, 1) := by decide +kernel
theorem dX11_isWrongForOthers_45 : decode cX11_isWrongForOthers 45 = .ok (.iinc 3 1, 3) := by decide +kernel
theorem dX11_isWrongForOthers_48 : decode cX11_isWrongForOthers 48 = .ok (.goto (-44), 3) := by decide +kernel
theorem dX11_isWrongForOthers_51 : decode cX11_isWrongForOthers 51 = .ok (.iload_n 2, 1) := by decide +kernel
theorem dX11_isWrongForOthers_52 : decode cX11_isWrongForOthers 52 = .ok (.ireturn, 1) := by decide +kernel
theorem dX11_load_0 : decode cX11_load 0 = .ok (.aload_n 0, 1) := by decide +kernel
theorem dX11_load_1 : decode cX11_load 1 = .ok (.iconst 0, 1) := by decide +kernel
theorem dX11_load_2 : decode cX11_load 2 = .ok (.putfield 37, 3) := by decide +kernel
theorem dX11_load_5 : decode cX11_load 5 = .ok (.aload_n 0, 1) := by decide +kernel
theorem dX11_load_6 : decode cX11_load 6 = .ok (.invokevirtual 219, 3) := by decide +kernel
theorem dX11_load_9 : decode cX11_load 9 = .ok (.aload_n 0, 1) := by decide +kernel
theorem dX11_load_10 : decode cX11_load 10 = .ok (.iconst 0, 1) := by decide +kernel
theorem dX11_load_11 : decode cX11_load 11 = .ok (.putfield 194, 3) := by decide +kernel
theorem dX11_load_14 : decode cX11_load 14 = .ok (.iconst 0, 1) := by decide +kernel
theorem dX11_load_15 : decode cX11_load 15 = .ok (.istore_n 1, 1) := by decide +kernel
theorem dX11_load_16 : decode cX11_load 16 = .ok (.iconst 1, 1) := by decide +kernel
theorem dX11_load_17 : decode cX11_load 17 = .ok (.istore_n 2, 1) := by decide +kernel
theorem dX11_load_18 : decode cX11_load 18 = .ok (.iload_n 2, 1) := by decide +kernel
theorem dX11_load_19 : decode cX11_load 19 = .ok (.ifCond .eq 21, 3) := by decide +kernel
theorem dX11_load_22 : decode cX11_load 22 = .ok (.aload_n 0, 1) := by decide +kernel
theorem dX11_load_23 : decode cX11_load 23 = .ok (.invokevirtual 197, 3) := by decide +kernel
theorem dX11_load_26 : decode cX11_load 26 = .ok (.ifCond .lt 14, 3) := by decide +kernel
theorem dX11_load_29 : decode cX11_load 29 = .ok (.aload_n 0, 1) := by decide +kernel
theorem dX11_load_30 : decode cX11_load 30 = .ok (.invokevirtual 222, 3) := by decide +kernel
theorem dX11_load_33 : decode cX11_load 33 = .ok (.istore_n 2, 1) := by decide +kernel
theorem dX11_load_34 : decode cX11_load 34 = .ok (.iinc 1 1, 3) := by decide +kernel
theorem dX11_load_37 : decode cX11_load 37 = .ok (.goto (-19), 3) := by decide +kernel
theorem dX11_load_40 : decode cX11_load 40 = .ok (.aload_n 0, 1) := by decide +kernel
theorem dX11_load_41 : decode cX11_load 41 = .ok (.invokevirtual 225, 3) := by decide +kernel
theorem dX11_load_44 : decode cX11_load 44 = .ok (.iload_n 2, 1) := by decide +kernel
theorem dX11_load_45 : decode cX11_load 45 = .ok (.ifCond .ne 12, 3) := by decide +kernel
theorem dX11_load_48 : decode cX11_load 48 = .ok (.sipush (-1000), 3) := by decide +kernel
theorem dX11_load_51 : decode cX11_load 51 = .ok (.aload_n 0, 1) := by decide +kernel
theorem dX11_load_52 : decode cX11_load 52 = .ok (.getfield 194, 3) := by decide +kernel
theorem dX11_load_55 : decode cX11_load 55 = .ok (.isub, 1) := by decide +kernel
theorem dX11_load_56 : decode cX11_load 56 = .ok (.ireturn, 1) := by decide +kernel
theorem dX11_load_57 : decode cX11_load 57 = .ok (.aload_n 0, 1) := by decide +kernel
theorem dX11_load_58 : decode cX11_load 58 = .ok (.invokevirtual 154, 3) := by decide +kernel
theorem dX11_load_61 : decode cX11_load 61 = .ok (.aload_n 0, 1) := by decide +kernel
theorem dX11_load_62 : decode cX11_load 62 = .ok (.invokevirtual 225, 3) := by decide +kernel
theorem dX11_load_65 : decode cX11_load 65 = .ok (.aload_n 0, 1) := by decide +kernel
theorem dX11_load_66 : decode cX11_load 66 = .ok (.iconst 0, 1) := by decide +kernel
theorem dX11_load_67 : decode cX11_load 67 = .ok (.putfield 191, 3) := by decide +kernel
theorem dX11_load_70 : decode cX11_load 70 = .ok (.iload_n 1, 1) := by decide +kernel
theorem dX11_load_71 : decode cX11_load 71 = .ok (.ireturn, 1) := by decide +kernel
theorem dX6_read_0 : decode cX6_read 0 = .ok (.aload_n 0, 1) := by decide +kernel
theorem dX6_read_1 : decode cX6_read 1 = .ok (.getfield 21, 3) := by decide +kernel
theorem dX6_read_4 : decode cX6_read 4 = .ok (.aload_n 1, 1) := by decide +kernel
theorem dX6_read_5 : decode cX6_read 5 = .ok (.invokevirtual 29, 3) := by decide +kernel
theorem dX6_read_8 : decode cX6_read 8 = .ok (.aload_n 0, 1) := by decide +kernel
theorem dX6_read_9 : decode cX6_read 9 = .ok (.iconst 0, 1) := by decide +kernel
theorem dX6_read_10 : decode cX6_read 10 = .ok (.putfield 33, 3) := by decide +kernel
theorem dX6_read_13 : decode cX6_read 13 = .ok (.aload_n 0, 1) := by decide +kernel
theorem dX6_read_14 : decode cX6_read 14 = .ok (.iconst 0, 1) := by decide +kernel
theorem dX6_read_15 : decode cX6_read 15 = .ok (.putfield 36, 3) := by decide +kernel
theorem dX6_read_18 : decode cX6_read 18 = .ok (.aload_n 0, 1) := by decide +kernel
theorem dX6_read_19 : decode cX6_read 19 = .ok (.iconst (-1), 1) := by decide +kernel
theorem dX6_read_20 : decode cX6_read 20 = .ok (.putfield 25, 3) := by decide +kernel
theorem dX6_read_23 : decode cX6_read 23 = .ok (.iconst 0, 1) := by decide +kernel
theorem dX6_read_24 : decode cX6_read 24 = .ok (.istore_n 2, 1) := by decide +kernel
theorem dX6_read_25 : decode cX6_read 25 = .ok (.iload_n 2, 1) := by decide +kernel
theorem dX6_read_26 : decode cX6_read 26 = .ok (.sipush 140, 3) := by decide +kernel
theorem dX6_read_29 : decode cX6_read 29 = .ok (.if_icmp .ge 37, 3) := by decide +kernel
theorem dX6_read_32 : decode cX6_read 32 = .ok (.aload_n 0, 1) := by decide +kernel
theorem dX6_read_33 : decode cX6_read 33 = .ok (.invokevirtual 39, 3) := by decide +kernel
theorem dX6_read_36 : decode cX6_read 36 = .ok (.ifCond .ne 30, 3) := by decide +kernel
theorem dX6_read_39 : decode cX6_read 39 = .ok (.aload_n 0, 1) := by decide +kernel
theorem dX6_read_40 : decode cX6_read 40 = .ok (.invokevirtual 43, 3) := by decide +kernel
theorem dX6_read_43 : decode cX6_read 43 = .ok (.ifCond .eq 23, 3) := by decide +kernel
theorem dX6_read_46 : decode cX6_read 46 = .ok (.aload_n 0, 1) := by decide +kernel
theorem dX6_read_47 : decode cX6_read 47 = .ok (.invokevirtual 47, 3) := by decide +kernel
theorem dX6_read_50 : decode cX6_read 50 = .ok (.aload_n 0, 1) := by decide +kernel
theorem dX6_read_51 : decode cX6_read 51 = .ok (.dup, 1) := by decide +kernel
theorem dX6_read_52 : decode cX6_read 52 = .ok (.getfield 33, 3) := by decide +kernel
theorem dX6_read_55 : decode cX6_read 55 = .ok (.iconst 1, 1) := by decide +kernel
theorem dX6_read_56 : decode cX6_read 56 = .ok (.iadd, 1) := by decide +kernel
theorem dX6_read_57 : decode cX6_read 57 = .ok (.putfield 33, 3) := by decide +kernel
theorem dX6_read_60 : decode cX6_read 60 = .ok (.iinc 2 1, 3) := by decide +kernel
theorem dX6_read_63 : decode cX6_read 63 = .ok (.goto (-38), 3) := by decide +kernel
theorem dX6_read_66 : decode cX6_read 66 = .ok (.return_, 1) := by decide +kernel
theorem dX9_seekBest_0 : decode cX9_seekBest 0 = .ok (.aload_n 0, 1) := by decide +kernel
theorem dX9_seekBest_1 : decode cX9_seekBest 1 = .ok (.aload_n 1, 1) := by decide +kernel
theorem dX9_seekBest_2 : decode cX9_seekBest 2 = .ok (.iload_n 2, 1) := by decide +kernel
theorem dX9_seekBest_3 : decode cX9_seekBest 3 = .ok (.invokevirtual 117, 3) := by decide +kernel
theorem dX9_seekBest_6 : decode cX9_seekBest 6 = .ok (.aload_n 0, 1) := by decide +kernel
theorem dX9_seekBest_7 : decode cX9_seekBest 7 = .ok (.bipush (-99), 2) := by decide +kernel
theorem dX9_seekBest_9 : decode cX9_seekBest 9 = .ok (.putfield 121, 3) := by decide +kernel
theorem dX9_seekBest_12 : decode cX9_seekBest 12 = .ok (.aload_n 0, 1) := by decide +kernel
theorem dX9_seekBest_13 : decode cX9_seekBest 13 = .ok (.bipush (-99), 2) := by decide +kernel
theorem dX9_seekBest_15 : decode cX9_seekBest 15 = .ok (.putfield 124, 3) := by decide +kernel
theorem dX9_seekBest_18 : decode cX9_seekBest 18 = .ok (.iconst 0, 1) := by decide +kernel
theorem dX9_seekBest_19 : decode cX9_seekBest 19 = .ok (.istore_n 3, 1) := by decide +kernel
theorem dX9_seekBest_20 : decode cX9_seekBest 20 = .ok (.iload_n 3, 1) := by decide +kernel
theorem dX9_seekBest_21 : decode cX9_seekBest 21 = .ok (.sipush 360, 3) := by decide +kernel
theorem dX9_seekBest_24 : decode cX9_seekBest 24 = .ok (.if_icmp .ge 53, 3) := by decide +kernel
theorem dX9_seekBest_27 : decode cX9_seekBest 27 = .ok (.aload_n 0, 1) := by decide +kernel
theorem dX9_seekBest_28 : decode cX9_seekBest 28 = .ok (.iload_n 3, 1) := by decide +kernel
theorem dX9_seekBest_29 : decode cX9_seekBest 29 = .ok (.invokevirtual 127, 3) := by decide +kernel
theorem dX9_seekBest_32 : decode cX9_seekBest 32 = .ok (.istore 4, 2) := by decide +kernel
theorem dX9_seekBest_34 : decode cX9_seekBest 34 = .ok (.aload_n 0, 1) := by decide +kernel
theorem dX9_seekBest_35 : decode cX9_seekBest 35 = .ok (.getfield 121, 3) := by decide +kernel
theorem dX9_seekBest_38 : decode cX9_seekBest 38 = .ok (.bipush (-99), 2) := by decide +kernel
theorem dX9_seekBest_40 : decode cX9_seekBest 40 = .ok (.if_icmp .eq 12, 3) := by decide +kernel
theorem dX9_seekBest_43 : decode cX9_seekBest 43 = .ok (.iload 4, 2) := by decide +kernel
theorem dX9_seekBest_45 : decode cX9_seekBest 45 = .ok (.aload_n 0, 1) := by decide +kernel
theorem dX9_seekBest_46 : decode cX9_seekBest 46 = .ok (.getfield 124, 3) := by decide +kernel
theorem dX9_seekBest_49 : decode cX9_seekBest 49 = .ok (.if_icmp .ge 22, 3) := by decide +kernel
theorem dX9_seekBest_52 : decode cX9_seekBest 52 = .ok (.aload_n 0, 1) := by decide +kernel
theorem dX9_seekBest_53 : decode cX9_seekBest 53 = .ok (.iload_n 3, 1) := by decide +kernel
theorem dX9_seekBest_54 : decode cX9_seekBest 54 = .ok (.invokevirtual 131, 3) := by decide +kernel
theorem dX9_seekBest_57 : decode cX9_seekBest 57 = .ok (.ifCond .ne 14, 3) := by decide +kernel
theorem dX9_seekBest_60 : decode cX9_seekBest 60 = .ok (.aload_n 0, 1) := by decide +kernel
theorem dX9_seekBest_61 : decode cX9_seekBest 61 = .ok (.iload_n 3, 1) := by decide +kernel
theorem dX9_seekBest_62 : decode cX9_seekBest 62 = .ok (.putfield 121, 3) := by decide +kernel
theorem dX9_seekBest_65 : decode cX9_seekBest 65 = .ok (.aload_n 0, 1) := by decide +kernel
theorem dX9_seekBest_66 : decode cX9_seekBest 66 = .ok (.iload 4, 2) := by decide +kernel
theorem dX9_seekBest_68 : decode cX9_seekBest 68 = .ok (.putfield 124, 3) := by decide +kernel
theorem dX9_seekBest_71 : decode cX9_seekBest 71 = .ok (.iinc 3 1, 3) := by decide +kernel
theorem dX9_seekBest_74 : decode cX9_seekBest 74 = .ok (.goto (-54), 3) := by decide +kernel
theorem dX9_seekBest_77 : decode cX9_seekBest 77 = .ok (.return_, 1) := by decide +kernel
theorem dX10_place_0 : decode cX10_place 0 = .ok (.aload_n 0, 1) := by decide +kernel
theorem dX10_place_1 : decode cX10_place 1 = .ok (.getfield 12, 3) := by decide +kernel
theorem dX10_place_4 : decode cX10_place 4 = .ok (.getfield 53, 3) := by decide +kernel
theorem dX10_place_7 : decode cX10_place 7 = .ok (.astore 5, 2) := by decide +kernel
theorem dX10_place_9 : decode cX10_place 9 = .ok (.aload 5, 2) := by decide +kernel
theorem dX10_place_11 : decode cX10_place 11 = .ok (.iload_n 1, 1) := by decide +kernel
theorem dX10_place_12 : decode cX10_place 12 = .ok (.invokevirtual 122, 3) := by decide +kernel
theorem dX10_place_15 : decode cX10_place 15 = .ok (.ifCond .eq 13, 3) := by decide +kernel
theorem dX10_place_18 : decode cX10_place 18 = .ok (.iload_n 2, 1) := by decide +kernel
theorem dX10_place_19 : decode cX10_place 19 = .ok (.iload_n 3, 1) := by decide +kernel
theorem dX10_place_20 : decode cX10_place 20 = .ok (.iload 4, 2) := by decide +kernel
theorem dX10_place_22 : decode cX10_place 22 = .ok (.invokestatic 128, 3) := by decide +kernel
theorem dX10_place_25 : decode cX10_place 25 = .ok (.ifCond .ne 5, 3) := by decide +kernel
theorem dX10_place_28 : decode cX10_place 28 = .ok (.iconst (-1), 1) := by decide +kernel
theorem dX10_place_29 : decode cX10_place 29 = .ok (.ireturn, 1) := by decide +kernel
theorem dX10_place_30 : decode cX10_place 30 = .ok (.iload_n 2, 1) := by decide +kernel
theorem dX10_place_31 : decode cX10_place 31 = .ok (.iload_n 3, 1) := by decide +kernel
theorem dX10_place_32 : decode cX10_place 32 = .ok (.iload 4, 2) := by decide +kernel
theorem dX10_place_34 : decode cX10_place 34 = .ok (.invokestatic 131, 3) := by decide +kernel
theorem dX10_place_37 : decode cX10_place 37 = .ok (.istore 6, 2) := by decide +kernel
theorem dX10_place_39 : decode cX10_place 39 = .ok (.aload_n 0, 1) := by decide +kernel
theorem dX10_place_40 : decode cX10_place 40 = .ok (.getfield 38, 3) := by decide +kernel
theorem dX10_place_43 : decode cX10_place 43 = .ok (.aload 5, 2) := by decide +kernel
theorem dX10_place_45 : decode cX10_place 45 = .ok (.iload_n 1, 1) := by decide +kernel
theorem dX10_place_46 : decode cX10_place 46 = .ok (.invokevirtual 135, 3) := by decide +kernel
theorem dX10_place_49 : decode cX10_place 49 = .ok (.aload_n 0, 1) := by decide +kernel
theorem dX10_place_50 : decode cX10_place 50 = .ok (.getfield 38, 3) := by decide +kernel
theorem dX10_place_53 : decode cX10_place 53 = .ok (.iload 6, 2) := by decide +kernel
theorem dX10_place_55 : decode cX10_place 55 = .ok (.invokevirtual 139, 3) := by decide +kernel
theorem dX10_place_58 : decode cX10_place 58 = .ok (.ifCond .eq 6, 3) := by decide +kernel
theorem dX10_place_61 : decode cX10_place 61 = .ok (.bipush (-2), 2) := by decide +kernel
theorem dX10_place_63 : decode cX10_place 63 = .ok (.ireturn, 1) := by decide +kernel
theorem dX10_place_64 : decode cX10_place 64 = .ok (.aload_n 0, 1) := by decide +kernel
theorem dX10_place_65 : decode cX10_place 65 = .ok (.invokevirtual 71, 3) := by decide +kernel
theorem dX10_place_68 : decode cX10_place 68 = .ok (.aload 5, 2) := by decide +kernel
theorem dX10_place_70 : decode cX10_place 70 = .ok (.getfield 142, 3) := by decide +kernel
theorem dX10_place_73 : decode cX10_place 73 = .ok (.iload_n 1, 1) := by decide +kernel
theorem dX10_place_74 : decode cX10_place 74 = .ok (.aaload, 1) := by decide +kernel
theorem dX10_place_75 : decode cX10_place 75 = .ok (.iload 6, 2) := by decide +kernel
theorem dX10_place_77 : decode cX10_place 77 = .ok (.invokevirtual 146, 3) := by decide +kernel
theorem dX10_place_80 : decode cX10_place 80 = .ok (.aload 5, 2) := by decide +kernel
theorem dX10_place_82 : decode cX10_place 82 = .ok (.invokevirtual 151, 3) := by decide +kernel
theorem dX10_place_85 : decode cX10_place 85 = .ok (.ireturn, 1) := by decide +kernel
theorem dX10_refusal_0 : decode cX10_refusal 0 = .ok (.aload_n 0, 1) := by decide +kernel
theorem dX10_refusal_1 : decode cX10_refusal 1 = .ok (.getfield 12, 3) := by decide +kernel
theorem dX10_refusal_4 : decode cX10_refusal 4 = .ok (.getfield 53, 3) := by decide +kernel
theorem dX10_refusal_7 : decode cX10_refusal 7 = .ok (.iload_n 1, 1) := by decide +kernel
theorem dX10_refusal_8 : decode cX10_refusal 8 = .ok (.invokevirtual 122, 3) := by decide +kernel
theorem dX10_refusal_11 : decode cX10_refusal 11 = .ok (.ifCond .eq 13, 3) := by decide +kernel
theorem dX10_refusal_14 : decode cX10_refusal 14 = .ok (.iload_n 2, 1) := by decide +kernel
theorem dX10_refusal_15 : decode cX10_refusal 15 = .ok (.iload_n 3, 1) := by decide +kernel
theorem dX10_refusal_16 : decode cX10_refusal 16 = .ok (.iload 4, 2) := by decide +kernel
theorem dX10_refusal_18 : decode cX10_refusal 18 = .ok (.invokestatic 128, 3) := by decide +kernel
theorem dX10_refusal_21 : decode cX10_refusal 21 = .ok (.ifCond .ne 5, 3) := by decide +kernel
theorem dX10_refusal_24 : decode cX10_refusal 24 = .ok (.iconst (-1), 1) := by decide +kernel
theorem dX10_refusal_25 : decode cX10_refusal 25 = .ok (.ireturn, 1) := by decide +kernel
theorem dX10_refusal_26 : decode cX10_refusal 26 = .ok (.aload_n 0, 1) := by decide +kernel
theorem dX10_refusal_27 : decode cX10_refusal 27 = .ok (.getfield 38, 3) := by decide +kernel
theorem dX10_refusal_30 : decode cX10_refusal 30 = .ok (.aload_n 0, 1) := by decide +kernel
theorem dX10_refusal_31 : decode cX10_refusal 31 = .ok (.getfield 12, 3) := by decide +kernel
theorem dX10_refusal_34 : decode cX10_refusal 34 = .ok (.getfield 53, 3) := by decide +kernel
theorem dX10_refusal_37 : decode cX10_refusal 37 = .ok (.iload_n 1, 1) := by decide +kernel
theorem dX10_refusal_38 : decode cX10_refusal 38 = .ok (.invokevirtual 135, 3) := by decide +kernel
theorem dX10_refusal_41 : decode cX10_refusal 41 = .ok (.aload_n 0, 1) := by decide +kernel
theorem dX10_refusal_42 : decode cX10_refusal 42 = .ok (.getfield 38, 3) := by decide +kernel
theorem dX10_refusal_45 : decode cX10_refusal 45 = .ok (.iload_n 2, 1) := by decide +kernel
theorem dX10_refusal_46 : decode cX10_refusal 46 = .ok (.iload_n 3, 1) := by decide +kernel
theorem dX10_refusal_47 : decode cX10_refusal 47 = .ok (.iload 4, 2) := by decide +kernel
theorem dX10_refusal_49 : decode cX10_refusal 49 = .ok (.invokestatic 131, 3) := by decide +kernel
theorem dX10_refusal_52 : decode cX10_refusal 52 = .ok (.invokevirtual 139, 3) := by decide +kernel
theorem dX10_refusal_55 : decode cX10_refusal 55 = .ok (.ireturn, 1) := by decide +kernel
theorem dX10_troubled_0 : decode cX10_troubled 0 = .ok (.aload_n 0, 1) := by decide +kernel
theorem dX10_troubled_1 : decode cX10_troubled 1 = .ok (.getfield 12, 3) := by decide +kernel
theorem dX10_troubled_4 : decode cX10_troubled 4 = .ok (.getfield 53, 3) := by decide +kernel
theorem dX10_troubled_7 : decode cX10_troubled 7 = .ok (.astore_n 1, 1) := by decide +kernel
theorem dX10_troubled_8 : decode cX10_troubled 8 = .ok (.iconst 0, 1) := by decide +kernel
theorem dX10_troubled_9 : decode cX10_troubled 9 = .ok (.istore_n 2, 1) := by decide +kernel
theorem dX10_troubled_10 : decode cX10_troubled 10 = .ok (.iconst 0, 1) := by decide +kernel
theorem dX10_troubled_11 : decode cX10_troubled 11 = .ok (.istore_n 3, 1) := by decide +kernel
theorem dX10_troubled_12 : decode cX10_troubled 12 = .ok (.iload_n 3, 1) := by decide +kernel
theorem dX10_troubled_13 : decode cX10_troubled 13 = .ok (.aload_n 1, 1) := by decide +kernel
theorem dX10_troubled_14 : decode cX10_troubled 14 = .ok (.getfield 115, 3) := by decide +kernel
theorem dX10_troubled_17 : decode cX10_troubled 17 = .ok (.if_icmp .ge 65, 3) := by decide +kernel
theorem dX10_troubled_20 : decode cX10_troubled 20 = .ok (.aload_n 1, 1) := by decide +kernel
theorem dX10_troubled_21 : decode cX10_troubled 21 = .ok (.getfield 142, 3) := by decide +kernel
theorem dX10_troubled_24 : decode cX10_troubled 24 = .ok (.iload_n 3, 1) := by decide +kernel
theorem dX10_troubled_25 : decode cX10_troubled 25 = .ok (.aaload, 1) := by decide +kernel
theorem dX10_troubled_26 : decode cX10_troubled 26 = .ok (.astore 4, 2) := by decide +kernel
theorem dX10_troubled_28 : decode cX10_troubled 28 = .ok (.aload 4, 2) := by decide +kernel
theorem dX10_troubled_30 : decode cX10_troubled 30 = .ok (.getfield 154, 3) := by decide +kernel
theorem dX10_troubled_33 : decode cX10_troubled 33 = .ok (.ifCond .eq 43, 3) := by decide +kernel
theorem dX10_troubled_36 : decode cX10_troubled 36 = .ok (.aload_n 0, 1) := by decide +kernel
theorem dX10_troubled_37 : decode cX10_troubled 37 = .ok (.getfield 38, 3) := by decide +kernel
theorem dX10_troubled_40 : decode cX10_troubled 40 = .ok (.aload_n 1, 1) := by decide +kernel
theorem dX10_troubled_41 : decode cX10_troubled 41 = .ok (.iload_n 3, 1) := by decide +kernel
theorem dX10_troubled_42 : decode cX10_troubled 42 = .ok (.invokevirtual 135, 3) := by decide +kernel
theorem dX10_troubled_45 : decode cX10_troubled 45 = .ok (.aload_n 0, 1) := by decide +kernel
theorem dX10_troubled_46 : decode cX10_troubled 46 = .ok (.getfield 38, 3) := by decide +kernel
theorem dX10_troubled_49 : decode cX10_troubled 49 = .ok (.aload 4, 2) := by decide +kernel
theorem dX10_troubled_51 : decode cX10_troubled 51 = .ok (.getfield 260, 3) := by decide +kernel
theorem dX10_troubled_54 : decode cX10_troubled 54 = .ok (.aload 4, 2) := by decide +kernel
theorem dX10_troubled_56 : decode cX10_troubled 56 = .ok (.getfield 263, 3) := by decide +kernel
theorem dX10_troubled_59 : decode cX10_troubled 59 = .ok (.aload 4, 2) := by decide +kernel
theorem dX10_troubled_61 : decode cX10_troubled 61 = .ok (.getfield 266, 3) := by decide +kernel
theorem dX10_troubled_64 : decode cX10_troubled 64 = .ok (.invokestatic 131, 3) := by decide +kernel
theorem dX10_troubled_67 : decode cX10_troubled 67 = .ok (.invokevirtual 139, 3) := by decide +kernel
theorem dX10_troubled_70 : decode cX10_troubled 70 = .ok (.ifCond .eq 6, 3) := by decide +kernel
theorem dX10_troubled_73 : decode cX10_troubled 73 = .ok (.iinc 2 1, 3) := by decide +kernel
theorem dX10_troubled_76 : decode cX10_troubled 76 = .ok (.iinc 3 1, 3) := by decide +kernel
theorem dX10_troubled_79 : decode cX10_troubled 79 = .ok (.goto (-67), 3) := by decide +kernel
theorem dX10_troubled_82 : decode cX10_troubled 82 = .ok (.iload_n 2, 1) := by decide +kernel
theorem dX10_troubled_83 : decode cX10_troubled 83 = .ok (.ireturn, 1) := by decide +kernel
theorem dX11_reasonOf_0 : decode cX11_reasonOf 0 = .ok (.aload_n 0, 1) := by decide +kernel
theorem dX11_reasonOf_1 : decode cX11_reasonOf 1 = .ok (.iload_n 1, 1) := by decide +kernel
theorem dX11_reasonOf_2 : decode cX11_reasonOf 2 = .ok (.bipush 6, 2) := by decide +kernel
theorem dX11_reasonOf_4 : decode cX11_reasonOf 4 = .ok (.invokevirtual 56, 3) := by decide +kernel
theorem dX11_reasonOf_7 : decode cX11_reasonOf 7 = .ok (.aload_n 0, 1) := by decide +kernel
theorem dX11_reasonOf_8 : decode cX11_reasonOf 8 = .ok (.iload_n 1, 1) := by decide +kernel
theorem dX11_reasonOf_9 : decode cX11_reasonOf 9 = .ok (.iconst 2, 1) := by decide +kernel
theorem dX11_reasonOf_10 : decode cX11_reasonOf 10 = .ok (.invokevirtual 56, 3) := by decide +kernel
theorem dX11_reasonOf_13 : decode cX11_reasonOf 13 = .ok (.iadd, 1) := by decide +kernel
theorem dX11_reasonOf_14 : decode cX11_reasonOf 14 = .ok (.bipush 6, 2) := by decide +kernel
theorem dX11_reasonOf_16 : decode cX11_reasonOf 16 = .ok (.if_icmp .gt 22, 3) := by decide +kernel
theorem dX11_reasonOf_19 : decode cX11_reasonOf 19 = .ok (.aload_n 0, 1) := by decide +kernel
theorem dX11_reasonOf_20 : decode cX11_reasonOf 20 = .ok (.iload_n 1, 1) := by decide +kernel
theorem dX11_reasonOf_21 : decode cX11_reasonOf 21 = .ok (.bipush 7, 2) := by decide +kernel
theorem dX11_reasonOf_23 : decode cX11_reasonOf 23 = .ok (.invokevirtual 56, 3) := by decide +kernel
theorem dX11_reasonOf_26 : decode cX11_reasonOf 26 = .ok (.aload_n 0, 1) := by decide +kernel
theorem dX11_reasonOf_27 : decode cX11_reasonOf 27 = .ok (.iload_n 1, 1) := by decide +kernel
theorem dX11_reasonOf_28 : decode cX11_reasonOf 28 = .ok (.iconst 3, 1) := by decide +kernel
theorem dX11_reasonOf_29 : decode cX11_reasonOf 29 = .ok (.invokevirtual 56, 3) := by decide +kernel
theorem dX11_reasonOf_32 : decode cX11_reasonOf 32 = .ok (.iadd, 1) := by decide +kernel
theorem dX11_reasonOf_33 : decode cX11_reasonOf 33 = .ok (.bipush 20, 2) := by decide +kernel
theorem dX11_reasonOf_35 : decode cX11_reasonOf 35 = .ok (.if_icmp .le 5, 3) := by decide +kernel
theorem dX11_reasonOf_38 : decode cX11_reasonOf 38 = .ok (.iconst 1, 1) := by decide +kernel
theorem dX11_reasonOf_39 : decode cX11_reasonOf 39 = .ok (.ireturn, 1) := by decide +kernel
theorem dX11_reasonOf_40 : decode cX11_reasonOf 40 = .ok (.aload_n 0, 1) := by decide +kernel
theorem dX11_reasonOf_41 : decode cX11_reasonOf 41 = .ok (.iload_n 1, 1) := by decide +kernel
theorem dX11_reasonOf_42 : decode cX11_reasonOf 42 = .ok (.invokevirtual 105, 3) := by decide +kernel
theorem dX11_reasonOf_45 : decode cX11_reasonOf 45 = .ok (.ifCond .eq 5, 3) := by decide +kernel
theorem dX11_reasonOf_48 : decode cX11_reasonOf 48 = .ok (.iconst 2, 1) := by decide +kernel
theorem dX11_reasonOf_49 : decode cX11_reasonOf 49 = .ok (.ireturn, 1) := by decide +kernel
theorem dX11_reasonOf_50 : decode cX11_reasonOf 50 = .ok (.aload_n 0, 1) := by decide +kernel
theorem dX11_reasonOf_51 : decode cX11_reasonOf 51 = .ok (.invokevirtual 69, 3) := by decide +kernel
theorem dX11_reasonOf_54 : decode cX11_reasonOf 54 = .ok (.aload_n 0, 1) := by decide +kernel
theorem dX11_reasonOf_55 : decode cX11_reasonOf 55 = .ok (.invokevirtual 108, 3) := by decide +kernel
theorem dX11_reasonOf_58 : decode cX11_reasonOf 58 = .ok (.ifCond .eq 5, 3) := by decide +kernel
theorem dX11_reasonOf_61 : decode cX11_reasonOf 61 = .ok (.iconst 3, 1) := by decide +kernel
theorem dX11_reasonOf_62 : decode cX11_reasonOf 62 = .ok (.ireturn, 1) := by decide +kernel
theorem dX11_reasonOf_63 : decode cX11_reasonOf 63 = .ok (.aload_n 0, 1) := by decide +kernel
theorem dX11_reasonOf_64 : decode cX11_reasonOf 64 = .ok (.aload_n 0, 1) := by decide +kernel
theorem dX11_reasonOf_65 : decode cX11_reasonOf 65 = .ok (.iload_n 1, 1) := by decide +kernel
theorem dX11_reasonOf_66 : decode cX11_reasonOf 66 = .ok (.iconst 0, 1) := by decide +kernel
theorem dX11_reasonOf_67 : decode cX11_reasonOf 67 = .ok (.invokevirtual 56, 3) := by decide +kernel
theorem dX11_reasonOf_70 : decode cX11_reasonOf 70 = .ok (.aload_n 0, 1) := by decide +kernel
theorem dX11_reasonOf_71 : decode cX11_reasonOf 71 = .ok (.iload_n 1, 1) := by decide +kernel
theorem dX11_reasonOf_72 : decode cX11_reasonOf 72 = .ok (.iconst 5, 1) := by decide +kernel
theorem dX11_reasonOf_73 : decode cX11_reasonOf 73 = .ok (.invokevirtual 56, 3) := by decide +kernel
theorem dX11_reasonOf_76 : decode cX11_reasonOf 76 = .ok (.invokevirtual 112, 3) := by decide +kernel
theorem dX11_reasonOf_79 : decode cX11_reasonOf 79 = .ok (.ifCond .ne 5, 3) := by decide +kernel
theorem dX11_reasonOf_82 : decode cX11_reasonOf 82 = .ok (.iconst 4, 1) := by decide +kernel
theorem dX11_reasonOf_83 : decode cX11_reasonOf 83 = .ok (.ireturn, 1) := by decide +kernel
theorem dX11_reasonOf_84 : decode cX11_reasonOf 84 = .ok (.aload_n 0, 1) := by decide +kernel
theorem dX11_reasonOf_85 : decode cX11_reasonOf 85 = .ok (.iload_n 1, 1) := by decide +kernel
theorem dX11_reasonOf_86 : decode cX11_reasonOf 86 = .ok (.invokevirtual 102, 3) := by decide +kernel
theorem dX11_reasonOf_89 : decode cX11_reasonOf 89 = .ok (.ifCond .eq 7, 3) := by decide +kernel
theorem dX11_reasonOf_92 : decode cX11_reasonOf 92 = .ok (.iconst 5, 1) := by decide +kernel
theorem dX11_reasonOf_93 : decode cX11_reasonOf 93 = .ok (.goto 17, 3) := by decide +kernel
theorem dX11_reasonOf_96 : decode cX11_reasonOf 96 = .ok (.aload_n 0, 1) := by decide +kernel
theorem dX11_reasonOf_97 : decode cX11_reasonOf 97 = .ok (.iload_n 1, 1) := by decide +kernel
theorem dX11_reasonOf_98 : decode cX11_reasonOf 98 = .ok (.invokevirtual 116, 3) := by decide +kernel
theorem dX11_reasonOf_101 : decode cX11_reasonOf 101 = .ok (.ifCond .eq 8, 3) := by decide +kernel
theorem dX11_reasonOf_104 : decode cX11_reasonOf 104 = .ok (.bipush 6, 2) := by decide +kernel
theorem dX11_reasonOf_106 : decode cX11_reasonOf 106 = .ok (.goto 4, 3) := by decide +kernel
theorem dX11_reasonOf_109 : decode cX11_reasonOf 109 = .ok (.iconst 0, 1) := by decide +kernel
theorem dX11_reasonOf_110 : decode cX11_reasonOf 110 = .ok (.ireturn, 1) := by decide +kernel
theorem dX10_floatAll_0 : decode cX10_floatAll 0 = .ok (.aload_n 0, 1) := by decide +kernel
theorem dX10_floatAll_1 : decode cX10_floatAll 1 = .ok (.getfield 12, 3) := by decide +kernel
theorem dX10_floatAll_4 : decode cX10_floatAll 4 = .ok (.getfield 53, 3) := by decide +kernel
theorem dX10_floatAll_7 : decode cX10_floatAll 7 = .ok (.astore_n 1, 1) := by decide +kernel
theorem dX10_floatAll_8 : decode cX10_floatAll 8 = .ok (.aload_n 0, 1) := by decide +kernel
theorem dX10_floatAll_9 : decode cX10_floatAll 9 = .ok (.invokevirtual 71, 3) := by decide +kernel
theorem dX10_floatAll_12 : decode cX10_floatAll 12 = .ok (.iconst 0, 1) := by decide +kernel
theorem dX10_floatAll_13 : decode cX10_floatAll 13 = .ok (.istore_n 2, 1) := by decide +kernel
theorem dX10_floatAll_14 : decode cX10_floatAll 14 = .ok (.iconst 0, 1) := by decide +kernel
theorem dX10_floatAll_15 : decode cX10_floatAll 15 = .ok (.istore_n 3, 1) := by decide +kernel
theorem dX10_floatAll_16 : decode cX10_floatAll 16 = .ok (.iload_n 3, 1) := by decide +kernel
theorem dX10_floatAll_17 : decode cX10_floatAll 17 = .ok (.aload_n 1, 1) := by decide +kernel
theorem dX10_floatAll_18 : decode cX10_floatAll 18 = .ok (.getfield 115, 3) := by decide +kernel
theorem dX10_floatAll_21 : decode cX10_floatAll 21 = .ok (.if_icmp .ge 61, 3) := by decide +kernel
theorem dX10_floatAll_24 : decode cX10_floatAll 24 = .ok (.aload_n 1, 1) := by decide +kernel
theorem dX10_floatAll_25 : decode cX10_floatAll 25 = .ok (.getfield 142, 3) := by decide +kernel
theorem dX10_floatAll_28 : decode cX10_floatAll 28 = .ok (.iload_n 3, 1) := by decide +kernel
theorem dX10_floatAll_29 : decode cX10_floatAll 29 = .ok (.aaload, 1) := by decide +kernel
theorem dX10_floatAll_30 : decode cX10_floatAll 30 = .ok (.astore 4, 2) := by decide +kernel
theorem dX10_floatAll_32 : decode cX10_floatAll 32 = .ok (.aload 4, 2) := by decide +kernel
theorem dX10_floatAll_34 : decode cX10_floatAll 34 = .ok (.getfield 154, 3) := by decide +kernel
theorem dX10_floatAll_37 : decode cX10_floatAll 37 = .ok (.ifCond .ne 39, 3) := by decide +kernel
theorem dX10_floatAll_40 : decode cX10_floatAll 40 = .ok (.aload_n 0, 1) := by decide +kernel
theorem dX10_floatAll_41 : decode cX10_floatAll 41 = .ok (.getfield 38, 3) := by decide +kernel
theorem dX10_floatAll_44 : decode cX10_floatAll 44 = .ok (.aload_n 1, 1) := by decide +kernel
theorem dX10_floatAll_45 : decode cX10_floatAll 45 = .ok (.iload_n 3, 1) := by decide +kernel
theorem dX10_floatAll_46 : decode cX10_floatAll 46 = .ok (.invokevirtual 157, 3) := by decide +kernel
theorem dX10_floatAll_49 : decode cX10_floatAll 49 = .ok (.aload_n 0, 1) := by decide +kernel
theorem dX10_floatAll_50 : decode cX10_floatAll 50 = .ok (.getfield 38, 3) := by decide +kernel
theorem dX10_floatAll_53 : decode cX10_floatAll 53 = .ok (.getfield 160, 3) := by decide +kernel
theorem dX10_floatAll_56 : decode cX10_floatAll 56 = .ok (.bipush (-99), 2) := by decide +kernel
theorem dX10_floatAll_58 : decode cX10_floatAll 58 = .ok (.if_icmp .eq 18, 3) := by decide +kernel
theorem dX10_floatAll_61 : decode cX10_floatAll 61 = .ok (.aload 4, 2) := by decide +kernel
theorem dX10_floatAll_63 : decode cX10_floatAll 63 = .ok (.aload_n 0, 1) := by decide +kernel
theorem dX10_floatAll_64 : decode cX10_floatAll 64 = .ok (.getfield 38, 3) := by decide +kernel
theorem dX10_floatAll_67 : decode cX10_floatAll 67 = .ok (.getfield 160, 3) := by decide +kernel
theorem dX10_floatAll_70 : decode cX10_floatAll 70 = .ok (.invokevirtual 146, 3) := by decide +kernel
theorem dX10_floatAll_73 : decode cX10_floatAll 73 = .ok (.iinc 2 1, 3) := by decide +kernel
theorem dX10_floatAll_76 : decode cX10_floatAll 76 = .ok (.iinc 3 1, 3) := by decide +kernel
theorem dX10_floatAll_79 : decode cX10_floatAll 79 = .ok (.goto (-63), 3) := by decide +kernel
theorem dX10_floatAll_82 : decode cX10_floatAll 82 = .ok (.iload_n 2, 1) := by decide +kernel
theorem dX10_floatAll_83 : decode cX10_floatAll 83 = .ok (.ireturn, 1) := by decide +kernel
theorem dX10_load_0 : decode cX10_load 0 = .ok (.aload_n 0, 1) := by decide +kernel
theorem dX10_load_1 : decode cX10_load 1 = .ok (.getfield 26, 3) := by decide +kernel
theorem dX10_load_4 : decode cX10_load 4 = .ok (.aload_n 0, 1) := by decide +kernel
theorem dX10_load_5 : decode cX10_load 5 = .ok (.getfield 12, 3) := by decide +kernel
theorem dX10_load_8 : decode cX10_load 8 = .ok (.getfield 53, 3) := by decide +kernel
theorem dX10_load_11 : decode cX10_load 11 = .ok (.invokevirtual 195, 3) := by decide +kernel
theorem dX10_load_14 : decode cX10_load 14 = .ok (.aload_n 0, 1) := by decide +kernel
theorem dX10_load_15 : decode cX10_load 15 = .ok (.getfield 26, 3) := by decide +kernel
theorem dX10_load_18 : decode cX10_load 18 = .ok (.invokevirtual 198, 3) := by decide +kernel
theorem dX10_load_21 : decode cX10_load 21 = .ok (.ifCond .eq 15, 3) := by decide +kernel
theorem dX10_load_24 : decode cX10_load 24 = .ok (.sipush (-1000), 3) := by decide +kernel
theorem dX10_load_27 : decode cX10_load 27 = .ok (.aload_n 0, 1) := by decide +kernel
theorem dX10_load_28 : decode cX10_load 28 = .ok (.getfield 26, 3) := by decide +kernel
theorem dX10_load_31 : decode cX10_load 31 = .ok (.getfield 202, 3) := by decide +kernel
theorem dX10_load_34 : decode cX10_load 34 = .ok (.isub, 1) := by decide +kernel
theorem dX10_load_35 : decode cX10_load 35 = .ok (.ireturn, 1) := by decide +kernel
theorem dX10_load_36 : decode cX10_load 36 = .ok (.aload_n 0, 1) := by decide +kernel
theorem dX10_load_37 : decode cX10_load 37 = .ok (.invokevirtual 71, 3) := by decide +kernel
theorem dX10_load_40 : decode cX10_load 40 = .ok (.aload_n 0, 1) := by decide +kernel
theorem dX10_load_41 : decode cX10_load 41 = .ok (.getfield 12, 3) := by decide +kernel
theorem dX10_load_44 : decode cX10_load 44 = .ok (.getfield 53, 3) := by decide +kernel
theorem dX10_load_47 : decode cX10_load 47 = .ok (.aload_n 0, 1) := by decide +kernel
theorem dX10_load_48 : decode cX10_load 48 = .ok (.getfield 26, 3) := by decide +kernel
theorem dX10_load_51 : decode cX10_load 51 = .ok (.getfield 205, 3) := by decide +kernel
theorem dX10_load_54 : decode cX10_load 54 = .ok (.invokevirtual 171, 3) := by decide +kernel
theorem dX10_load_57 : decode cX10_load 57 = .ok (.aload_n 0, 1) := by decide +kernel
theorem dX10_load_58 : decode cX10_load 58 = .ok (.getfield 34, 3) := by decide +kernel
theorem dX10_load_61 : decode cX10_load 61 = .ok (.iconst 0, 1) := by decide +kernel
theorem dX10_load_62 : decode cX10_load 62 = .ok (.putfield 189, 3) := by decide +kernel
theorem dX10_load_65 : decode cX10_load 65 = .ok (.aload_n 0, 1) := by decide +kernel
theorem dX10_load_66 : decode cX10_load 66 = .ok (.getfield 26, 3) := by decide +kernel
theorem dX10_load_69 : decode cX10_load 69 = .ok (.getfield 208, 3) := by decide +kernel
theorem dX10_load_72 : decode cX10_load 72 = .ok (.ireturn, 1) := by decide +kernel
theorem dX10_bestPlace_0 : decode cX10_bestPlace 0 = .ok (.aload_n 0, 1) := by decide +kernel
theorem dX10_bestPlace_1 : decode cX10_bestPlace 1 = .ok (.getfield 12, 3) := by decide +kernel
theorem dX10_bestPlace_4 : decode cX10_bestPlace 4 = .ok (.getfield 53, 3) := by decide +kernel
theorem dX10_bestPlace_7 : decode cX10_bestPlace 7 = .ok (.iload_n 1, 1) := by decide +kernel
theorem dX10_bestPlace_8 : decode cX10_bestPlace 8 = .ok (.invokevirtual 122, 3) := by decide +kernel
theorem dX10_bestPlace_11 : decode cX10_bestPlace 11 = .ok (.ifCond .eq 12, 3) := by decide +kernel
theorem dX10_bestPlace_14 : decode cX10_bestPlace 14 = .ok (.iload_n 2, 1) := by decide +kernel
theorem dX10_bestPlace_15 : decode cX10_bestPlace 15 = .ok (.iconst 0, 1) := by decide +kernel
theorem dX10_bestPlace_16 : decode cX10_bestPlace 16 = .ok (.iconst 1, 1) := by decide +kernel
theorem dX10_bestPlace_17 : decode cX10_bestPlace 17 = .ok (.invokestatic 61, 3) := by decide +kernel
theorem dX10_bestPlace_20 : decode cX10_bestPlace 20 = .ok (.ifCond .ne 5, 3) := by decide +kernel
theorem dX10_bestPlace_23 : decode cX10_bestPlace 23 = .ok (.iconst (-1), 1) := by decide +kernel
theorem dX10_bestPlace_24 : decode cX10_bestPlace 24 = .ok (.ireturn, 1) := by decide +kernel
theorem dX10_bestPlace_25 : decode cX10_bestPlace 25 = .ok (.aload_n 0, 1) := by decide +kernel
theorem dX10_bestPlace_26 : decode cX10_bestPlace 26 = .ok (.getfield 38, 3) := by decide +kernel
theorem dX10_bestPlace_29 : decode cX10_bestPlace 29 = .ok (.aload_n 0, 1) := by decide +kernel
theorem dX10_bestPlace_30 : decode cX10_bestPlace 30 = .ok (.getfield 12, 3) := by decide +kernel
theorem dX10_bestPlace_33 : decode cX10_bestPlace 33 = .ok (.getfield 53, 3) := by decide +kernel
theorem dX10_bestPlace_36 : decode cX10_bestPlace 36 = .ok (.iload_n 1, 1) := by decide +kernel
theorem dX10_bestPlace_37 : decode cX10_bestPlace 37 = .ok (.invokevirtual 157, 3) := by decide +kernel
theorem dX10_bestPlace_40 : decode cX10_bestPlace 40 = .ok (.iload_n 2, 1) := by decide +kernel
theorem dX10_bestPlace_41 : decode cX10_bestPlace 41 = .ok (.ifCond .ne 13, 3) := by decide +kernel
theorem dX10_bestPlace_44 : decode cX10_bestPlace 44 = .ok (.aload_n 0, 1) := by decide +kernel
theorem dX10_bestPlace_45 : decode cX10_bestPlace 45 = .ok (.getfield 38, 3) := by decide +kernel
theorem dX10_bestPlace_48 : decode cX10_bestPlace 48 = .ok (.getfield 160, 3) := by decide +kernel
theorem dX10_bestPlace_51 : decode cX10_bestPlace 51 = .ok (.goto 10, 3) := by decide +kernel
theorem dX10_bestPlace_54 : decode cX10_bestPlace 54 = .ok (.aload_n 0, 1) := by decide +kernel
theorem dX10_bestPlace_55 : decode cX10_bestPlace 55 = .ok (.getfield 38, 3) := by decide +kernel
theorem dX10_bestPlace_58 : decode cX10_bestPlace 58 = .ok (.getfield 279, 3) := by decide +kernel
theorem dX10_bestPlace_61 : decode cX10_bestPlace 61 = .ok (.ireturn, 1) := by decide +kernel
theorem dX11_refusalOf_0 : decode cX11_refusalOf 0 = .ok (.aload_n 0, 1) := by decide +kernel
theorem dX11_refusalOf_1 : decode cX11_refusalOf 1 = .ok (.iload_n 1, 1) := by decide +kernel
theorem dX11_refusalOf_2 : decode cX11_refusalOf 2 = .ok (.invokevirtual 138, 3) := by decide +kernel
theorem dX11_refusalOf_5 : decode cX11_refusalOf 5 = .ok (.aload_n 0, 1) := by decide +kernel
theorem dX11_refusalOf_6 : decode cX11_refusalOf 6 = .ok (.iload_n 1, 1) := by decide +kernel
theorem dX11_refusalOf_7 : decode cX11_refusalOf 7 = .ok (.iload_n 2, 1) := by decide +kernel
theorem dX11_refusalOf_8 : decode cX11_refusalOf 8 = .ok (.iload_n 3, 1) := by decide +kernel
theorem dX11_refusalOf_9 : decode cX11_refusalOf 9 = .ok (.iload 4, 2) := by decide +kernel
theorem dX11_refusalOf_11 : decode cX11_refusalOf 11 = .ok (.invokevirtual 134, 3) := by decide +kernel
theorem dX11_refusalOf_14 : decode cX11_refusalOf 14 = .ok (.aload_n 0, 1) := by decide +kernel
theorem dX11_refusalOf_15 : decode cX11_refusalOf 15 = .ok (.iload_n 1, 1) := by decide +kernel
theorem dX11_refusalOf_16 : decode cX11_refusalOf 16 = .ok (.invokevirtual 141, 3) := by decide +kernel
theorem dX11_refusalOf_19 : decode cX11_refusalOf 19 = .ok (.istore 5, 2) := by decide +kernel
theorem dX11_refusalOf_21 : decode cX11_refusalOf 21 = .ok (.aload_n 0, 1) := by decide +kernel
theorem dX11_refusalOf_22 : decode cX11_refusalOf 22 = .ok (.iload_n 1, 1) := by decide +kernel
theorem dX11_refusalOf_23 : decode cX11_refusalOf 23 = .ok (.invokevirtual 144, 3) := by decide +kernel
theorem dX11_refusalOf_26 : decode cX11_refusalOf 26 = .ok (.iload 5, 2) := by decide +kernel
theorem dX11_refusalOf_28 : decode cX11_refusalOf 28 = .ok (.ireturn, 1) := by decide +kernel
theorem dX11_best_0 : decode cX11_best 0 = .ok (.bipush (-99), 2) := by decide +kernel
theorem dX11_best_2 : decode cX11_best 2 = .ok (.istore_n 2, 1) := by decide +kernel
theorem dX11_best_3 : decode cX11_best 3 = .ok (.aload_n 0, 1) := by decide +kernel
theorem dX11_best_4 : decode cX11_best 4 = .ok (.bipush (-99), 2) := by decide +kernel
theorem dX11_best_6 : decode cX11_best 6 = .ok (.putfield 147, 3) := by decide +kernel
theorem dX11_best_9 : decode cX11_best 9 = .ok (.aload_n 0, 1) := by decide +kernel
theorem dX11_best_10 : decode cX11_best 10 = .ok (.iload_n 1, 1) := by decide +kernel
theorem dX11_best_11 : decode cX11_best 11 = .ok (.invokevirtual 138, 3) := by decide +kernel
theorem dX11_best_14 : decode cX11_best 14 = .ok (.iconst 0, 1) := by decide +kernel
theorem dX11_best_15 : decode cX11_best 15 = .ok (.istore_n 3, 1) := by decide +kernel
theorem dX11_best_16 : decode cX11_best 16 = .ok (.iload_n 3, 1) := by decide +kernel
theorem dX11_best_17 : decode cX11_best 17 = .ok (.sipush 360, 3) := by decide +kernel
theorem dX11_best_20 : decode cX11_best 20 = .ok (.if_icmp .ge 64, 3) := by decide +kernel
theorem dX11_best_23 : decode cX11_best 23 = .ok (.aload_n 0, 1) := by decide +kernel
theorem dX11_best_24 : decode cX11_best 24 = .ok (.iload_n 1, 1) := by decide +kernel
theorem dX11_best_25 : decode cX11_best 25 = .ok (.iload_n 3, 1) := by decide +kernel
theorem dX11_best_26 : decode cX11_best 26 = .ok (.bipush 120, 2) := by decide +kernel
theorem dX11_best_28 : decode cX11_best 28 = .ok (.idiv, 1) := by decide +kernel
theorem dX11_best_29 : decode cX11_best 29 = .ok (.iload_n 3, 1) := by decide +kernel
theorem dX11_best_30 : decode cX11_best 30 = .ok (.bipush 120, 2) := by decide +kernel
theorem dX11_best_32 : decode cX11_best 32 = .ok (.irem, 1) := by decide +kernel
theorem dX11_best_33 : decode cX11_best 33 = .ok (.bipush 20, 2) := by decide +kernel
theorem dX11_best_35 : decode cX11_best 35 = .ok (.idiv, 1) := by decide +kernel
theorem dX11_best_36 : decode cX11_best 36 = .ok (.iload_n 3, 1) := by decide +kernel
theorem dX11_best_37 : decode cX11_best 37 = .ok (.bipush 20, 2) := by decide +kernel
theorem dX11_best_39 : decode cX11_best 39 = .ok (.irem, 1) := by decide +kernel
theorem dX11_best_40 : decode cX11_best 40 = .ok (.invokevirtual 134, 3) := by decide +kernel
theorem dX11_best_43 : decode cX11_best 43 = .ok (.iload_n 2, 1) := by decide +kernel
theorem dX11_best_44 : decode cX11_best 44 = .ok (.bipush (-99), 2) := by decide +kernel
theorem dX11_best_46 : decode cX11_best 46 = .ok (.if_icmp .eq 14, 3) := by decide +kernel
theorem dX11_best_49 : decode cX11_best 49 = .ok (.aload_n 0, 1) := by decide +kernel
theorem dX11_best_50 : decode cX11_best 50 = .ok (.invokevirtual 150, 3) := by decide +kernel
theorem dX11_best_53 : decode cX11_best 53 = .ok (.aload_n 0, 1) := by decide +kernel
theorem dX11_best_54 : decode cX11_best 54 = .ok (.getfield 147, 3) := by decide +kernel
theorem dX11_best_57 : decode cX11_best 57 = .ok (.if_icmp .ge 21, 3) := by decide +kernel
theorem dX11_best_60 : decode cX11_best 60 = .ok (.aload_n 0, 1) := by decide +kernel
theorem dX11_best_61 : decode cX11_best 61 = .ok (.iload_n 1, 1) := by decide +kernel
theorem dX11_best_62 : decode cX11_best 62 = .ok (.invokevirtual 141, 3) := by decide +kernel
theorem dX11_best_65 : decode cX11_best 65 = .ok (.ifCond .ne 13, 3) := by decide +kernel
theorem dX11_best_68 : decode cX11_best 68 = .ok (.iload_n 3, 1) := by decide +kernel
theorem dX11_best_69 : decode cX11_best 69 = .ok (.istore_n 2, 1) := by decide +kernel
theorem dX11_best_70 : decode cX11_best 70 = .ok (.aload_n 0, 1) := by decide +kernel
theorem dX11_best_71 : decode cX11_best 71 = .ok (.aload_n 0, 1) := by decide +kernel
theorem dX11_best_72 : decode cX11_best 72 = .ok (.invokevirtual 150, 3) := by decide +kernel
theorem dX11_best_75 : decode cX11_best 75 = .ok (.putfield 147, 3) := by decide +kernel
theorem dX11_best_78 : decode cX11_best 78 = .ok (.iinc 3 1, 3) := by decide +kernel
theorem dX11_best_81 : decode cX11_best 81 = .ok (.goto (-65), 3) := by decide +kernel
theorem dX11_best_84 : decode cX11_best 84 = .ok (.aload_n 0, 1) := by decide +kernel
theorem dX11_best_85 : decode cX11_best 85 = .ok (.iload_n 1, 1) := by decide +kernel
theorem dX11_best_86 : decode cX11_best 86 = .ok (.invokevirtual 144, 3) := by decide +kernel
theorem dX11_best_89 : decode cX11_best 89 = .ok (.iload_n 2, 1) := by decide +kernel
theorem dX11_best_90 : decode cX11_best 90 = .ok (.ireturn, 1) := by decide +kernel
theorem dX11_place_0 : decode cX11_place 0 = .ok (.aload_n 0, 1) := by decide +kernel
theorem dX11_place_1 : decode cX11_place 1 = .ok (.iconst 0, 1) := by decide +kernel
theorem dX11_place_2 : decode cX11_place 2 = .ok (.putfield 37, 3) := by decide +kernel
theorem dX11_place_5 : decode cX11_place 5 = .ok (.aload_n 0, 1) := by decide +kernel
theorem dX11_place_6 : decode cX11_place 6 = .ok (.iload_n 1, 1) := by decide +kernel
theorem dX11_place_7 : decode cX11_place 7 = .ok (.invokevirtual 176, 3) := by decide +kernel
theorem dX11_place_10 : decode cX11_place 10 = .ok (.ifCond .eq 13, 3) := by decide +kernel
theorem dX11_place_13 : decode cX11_place 13 = .ok (.iload_n 2, 1) := by decide +kernel
theorem dX11_place_14 : decode cX11_place 14 = .ok (.iload_n 3, 1) := by decide +kernel
theorem dX11_place_15 : decode cX11_place 15 = .ok (.iload 4, 2) := by decide +kernel
theorem dX11_place_17 : decode cX11_place 17 = .ok (.invokestatic 179, 3) := by decide +kernel
theorem dX11_place_20 : decode cX11_place 20 = .ok (.ifCond .ne 5, 3) := by decide +kernel
theorem dX11_place_23 : decode cX11_place 23 = .ok (.iconst (-1), 1) := by decide +kernel
theorem dX11_place_24 : decode cX11_place 24 = .ok (.ireturn, 1) := by decide +kernel
theorem dX11_place_25 : decode cX11_place 25 = .ok (.aload_n 0, 1) := by decide +kernel
theorem dX11_place_26 : decode cX11_place 26 = .ok (.iload_n 1, 1) := by decide +kernel
theorem dX11_place_27 : decode cX11_place 27 = .ok (.iload_n 2, 1) := by decide +kernel
theorem dX11_place_28 : decode cX11_place 28 = .ok (.iload_n 3, 1) := by decide +kernel
theorem dX11_place_29 : decode cX11_place 29 = .ok (.iload 4, 2) := by decide +kernel
theorem dX11_place_31 : decode cX11_place 31 = .ok (.invokevirtual 182, 3) := by decide +kernel
theorem dX11_place_34 : decode cX11_place 34 = .ok (.ifCond .eq 6, 3) := by decide +kernel
theorem dX11_place_37 : decode cX11_place 37 = .ok (.bipush (-2), 2) := by decide +kernel
theorem dX11_place_39 : decode cX11_place 39 = .ok (.ireturn, 1) := by decide +kernel
theorem dX11_place_40 : decode cX11_place 40 = .ok (.aload_n 0, 1) := by decide +kernel
theorem dX11_place_41 : decode cX11_place 41 = .ok (.invokevirtual 154, 3) := by decide +kernel
theorem dX11_place_44 : decode cX11_place 44 = .ok (.aload_n 0, 1) := by decide +kernel
theorem dX11_place_45 : decode cX11_place 45 = .ok (.iload_n 1, 1) := by decide +kernel
theorem dX11_place_46 : decode cX11_place 46 = .ok (.iload_n 2, 1) := by decide +kernel
theorem dX11_place_47 : decode cX11_place 47 = .ok (.iload_n 3, 1) := by decide +kernel
theorem dX11_place_48 : decode cX11_place 48 = .ok (.iload 4, 2) := by decide +kernel
theorem dX11_place_50 : decode cX11_place 50 = .ok (.invokevirtual 134, 3) := by decide +kernel
theorem dX11_place_53 : decode cX11_place 53 = .ok (.aload_n 0, 1) := by decide +kernel
theorem dX11_place_54 : decode cX11_place 54 = .ok (.invokevirtual 150, 3) := by decide +kernel
theorem dX11_place_57 : decode cX11_place 57 = .ok (.ireturn, 1) := by decide +kernel
theorem dX11_floatAll_0 : decode cX11_floatAll 0 = .ok (.aload_n 0, 1) := by decide +kernel
theorem dX11_floatAll_1 : decode cX11_floatAll 1 = .ok (.iconst 0, 1) := by decide +kernel
theorem dX11_floatAll_2 : decode cX11_floatAll 2 = .ok (.putfield 37, 3) := by decide +kernel
theorem dX11_floatAll_5 : decode cX11_floatAll 5 = .ok (.aload_n 0, 1) := by decide +kernel
theorem dX11_floatAll_6 : decode cX11_floatAll 6 = .ok (.invokevirtual 154, 3) := by decide +kernel
theorem dX11_floatAll_9 : decode cX11_floatAll 9 = .ok (.iconst 0, 1) := by decide +kernel
theorem dX11_floatAll_10 : decode cX11_floatAll 10 = .ok (.istore_n 1, 1) := by decide +kernel
theorem dX11_floatAll_11 : decode cX11_floatAll 11 = .ok (.iconst 0, 1) := by decide +kernel
theorem dX11_floatAll_12 : decode cX11_floatAll 12 = .ok (.istore_n 2, 1) := by decide +kernel
theorem dX11_floatAll_13 : decode cX11_floatAll 13 = .ok (.iload_n 2, 1) := by decide +kernel
theorem dX11_floatAll_14 : decode cX11_floatAll 14 = .ok (.aload_n 0, 1) := by decide +kernel
theorem dX11_floatAll_15 : decode cX11_floatAll 15 = .ok (.getfield 7, 3) := by decide +kernel
theorem dX11_floatAll_18 : decode cX11_floatAll 18 = .ok (.iconst 1, 1) := by decide +kernel
theorem dX11_floatAll_19 : decode cX11_floatAll 19 = .ok (.iaload, 1) := by decide +kernel
theorem dX11_floatAll_20 : decode cX11_floatAll 20 = .ok (.if_icmp .ge 57, 3) := by decide +kernel
theorem dX11_floatAll_23 : decode cX11_floatAll 23 = .ok (.aload_n 0, 1) := by decide +kernel
theorem dX11_floatAll_24 : decode cX11_floatAll 24 = .ok (.iload_n 2, 1) := by decide +kernel
theorem dX11_floatAll_25 : decode cX11_floatAll 25 = .ok (.invokevirtual 59, 3) := by decide +kernel
theorem dX11_floatAll_28 : decode cX11_floatAll 28 = .ok (.ifCond .eq 8, 3) := by decide +kernel
theorem dX11_floatAll_31 : decode cX11_floatAll 31 = .ok (.bipush (-99), 2) := by decide +kernel
theorem dX11_floatAll_33 : decode cX11_floatAll 33 = .ok (.goto 8, 3) := by decide +kernel
theorem dX11_floatAll_36 : decode cX11_floatAll 36 = .ok (.aload_n 0, 1) := by decide +kernel
theorem dX11_floatAll_37 : decode cX11_floatAll 37 = .ok (.iload_n 2, 1) := by decide +kernel
theorem dX11_floatAll_38 : decode cX11_floatAll 38 = .ok (.invokevirtual 185, 3) := by decide +kernel
theorem dX11_floatAll_41 : decode cX11_floatAll 41 = .ok (.istore_n 3, 1) := by decide +kernel
theorem dX11_floatAll_42 : decode cX11_floatAll 42 = .ok (.iload_n 3, 1) := by decide +kernel
theorem dX11_floatAll_43 : decode cX11_floatAll 43 = .ok (.bipush (-99), 2) := by decide +kernel
theorem dX11_floatAll_45 : decode cX11_floatAll 45 = .ok (.if_icmp .eq 26, 3) := by decide +kernel
theorem dX11_floatAll_48 : decode cX11_floatAll 48 = .ok (.aload_n 0, 1) := by decide +kernel
theorem dX11_floatAll_49 : decode cX11_floatAll 49 = .ok (.iload_n 2, 1) := by decide +kernel
theorem dX11_floatAll_50 : decode cX11_floatAll 50 = .ok (.iload_n 3, 1) := by decide +kernel
theorem dX11_floatAll_51 : decode cX11_floatAll 51 = .ok (.bipush 120, 2) := by decide +kernel
theorem dX11_floatAll_53 : decode cX11_floatAll 53 = .ok (.idiv, 1) := by decide +kernel
theorem dX11_floatAll_54 : decode cX11_floatAll 54 = .ok (.iload_n 3, 1) := by decide +kernel
theorem dX11_floatAll_55 : decode cX11_floatAll 55 = .ok (.bipush 120, 2) := by decide +kernel
theorem dX11_floatAll_57 : decode cX11_floatAll 57 = .ok (.irem, 1) := by decide +kernel
theorem dX11_floatAll_58 : decode cX11_floatAll 58 = .ok (.bipush 20, 2) := by decide +kernel
theorem dX11_floatAll_60 : decode cX11_floatAll 60 = .ok (.idiv, 1) := by decide +kernel
theorem dX11_floatAll_61 : decode cX11_floatAll 61 = .ok (.iload_n 3, 1) := by decide +kernel
theorem dX11_floatAll_62 : decode cX11_floatAll 62 = .ok (.bipush 20, 2) := by decide +kernel
theorem dX11_floatAll_64 : decode cX11_floatAll 64 = .ok (.irem, 1) := by decide +kernel
theorem dX11_floatAll_65 : decode cX11_floatAll 65 = .ok (.invokevirtual 134, 3) := by decide +kernel
theorem dX11_floatAll_68 : decode cX11_floatAll 68 = .ok (.iinc 1 1, 3) := by decide +kernel
theorem dX11_floatAll_71 : decode cX11_floatAll 71 = .ok (.iinc 2 1, 3) := by decide +kernel
theorem dX11_floatAll_74 : decode cX11_floatAll 74 = .ok (.goto (-61), 3) := by decide +kernel
theorem dX11_floatAll_77 : decode cX11_floatAll 77 = .ok (.iload_n 1, 1) := by decide +kernel
theorem dX11_floatAll_78 : decode cX11_floatAll 78 = .ok (.ireturn, 1) := by decide +kernel
theorem dX11_refusal_0 : decode cX11_refusal 0 = .ok (.aload_n 0, 1) := by decide +kernel
theorem dX11_refusal_1 : decode cX11_refusal 1 = .ok (.iconst 0, 1) := by decide +kernel
theorem dX11_refusal_2 : decode cX11_refusal 2 = .ok (.putfield 37, 3) := by decide +kernel
theorem dX11_refusal_5 : decode cX11_refusal 5 = .ok (.aload_n 0, 1) := by decide +kernel
theorem dX11_refusal_6 : decode cX11_refusal 6 = .ok (.iload_n 1, 1) := by decide +kernel
theorem dX11_refusal_7 : decode cX11_refusal 7 = .ok (.invokevirtual 176, 3) := by decide +kernel
theorem dX11_refusal_10 : decode cX11_refusal 10 = .ok (.ifCond .eq 25, 3) := by decide +kernel
theorem dX11_refusal_13 : decode cX11_refusal 13 = .ok (.iload_n 2, 1) := by decide +kernel
theorem dX11_refusal_14 : decode cX11_refusal 14 = .ok (.iload_n 3, 1) := by decide +kernel
theorem dX11_refusal_15 : decode cX11_refusal 15 = .ok (.iload 4, 2) := by decide +kernel
theorem dX11_refusal_17 : decode cX11_refusal 17 = .ok (.invokestatic 179, 3) := by decide +kernel
theorem dX11_refusal_20 : decode cX11_refusal 20 = .ok (.ifCond .eq 15, 3) := by decide +kernel
theorem dX11_refusal_23 : decode cX11_refusal 23 = .ok (.aload_n 0, 1) := by decide +kernel
theorem dX11_refusal_24 : decode cX11_refusal 24 = .ok (.iload_n 1, 1) := by decide +kernel
theorem dX11_refusal_25 : decode cX11_refusal 25 = .ok (.iload_n 2, 1) := by decide +kernel
theorem dX11_refusal_26 : decode cX11_refusal 26 = .ok (.iload_n 3, 1) := by decide +kernel
theorem dX11_refusal_27 : decode cX11_refusal 27 = .ok (.iload 4, 2) := by decide +kernel
theorem dX11_refusal_29 : decode cX11_refusal 29 = .ok (.invokevirtual 182, 3) := by decide +kernel
theorem dX11_refusal_32 : decode cX11_refusal 32 = .ok (.goto 4, 3) := by decide +kernel
theorem dX11_refusal_35 : decode cX11_refusal 35 = .ok (.iconst (-1), 1) := by decide +kernel
theorem dX11_refusal_36 : decode cX11_refusal 36 = .ok (.ireturn, 1) := by decide +kernel
theorem dX11_bestPlace_0 : decode cX11_bestPlace 0 = .ok (.aload_n 0, 1) := by decide +kernel
theorem dX11_bestPlace_1 : decode cX11_bestPlace 1 = .ok (.iconst 0, 1) := by decide +kernel
theorem dX11_bestPlace_2 : decode cX11_bestPlace 2 = .ok (.putfield 37, 3) := by decide +kernel
theorem dX11_bestPlace_5 : decode cX11_bestPlace 5 = .ok (.aload_n 0, 1) := by decide +kernel
theorem dX11_bestPlace_6 : decode cX11_bestPlace 6 = .ok (.iload_n 1, 1) := by decide +kernel
theorem dX11_bestPlace_7 : decode cX11_bestPlace 7 = .ok (.invokevirtual 176, 3) := by decide +kernel
theorem dX11_bestPlace_10 : decode cX11_bestPlace 10 = .ok (.ifCond .eq 12, 3) := by decide +kernel
theorem dX11_bestPlace_13 : decode cX11_bestPlace 13 = .ok (.iload_n 2, 1) := by decide +kernel
theorem dX11_bestPlace_14 : decode cX11_bestPlace 14 = .ok (.iconst 0, 1) := by decide +kernel
theorem dX11_bestPlace_15 : decode cX11_bestPlace 15 = .ok (.iconst 1, 1) := by decide +kernel
theorem dX11_bestPlace_16 : decode cX11_bestPlace 16 = .ok (.invokestatic 44, 3) := by decide +kernel
theorem dX11_bestPlace_19 : decode cX11_bestPlace 19 = .ok (.ifCond .ne 5, 3) := by decide +kernel
theorem dX11_bestPlace_22 : decode cX11_bestPlace 22 = .ok (.iconst (-1), 1) := by decide +kernel
theorem dX11_bestPlace_23 : decode cX11_bestPlace 23 = .ok (.ireturn, 1) := by decide +kernel
theorem dX11_bestPlace_24 : decode cX11_bestPlace 24 = .ok (.aload_n 0, 1) := by decide +kernel
theorem dX11_bestPlace_25 : decode cX11_bestPlace 25 = .ok (.iload_n 1, 1) := by decide +kernel
theorem dX11_bestPlace_26 : decode cX11_bestPlace 26 = .ok (.invokevirtual 185, 3) := by decide +kernel
theorem dX11_bestPlace_29 : decode cX11_bestPlace 29 = .ok (.istore_n 3, 1) := by decide +kernel
theorem dX11_bestPlace_30 : decode cX11_bestPlace 30 = .ok (.iload_n 2, 1) := by decide +kernel
theorem dX11_bestPlace_31 : decode cX11_bestPlace 31 = .ok (.ifCond .ne 7, 3) := by decide +kernel
theorem dX11_bestPlace_34 : decode cX11_bestPlace 34 = .ok (.iload_n 3, 1) := by decide +kernel
theorem dX11_bestPlace_35 : decode cX11_bestPlace 35 = .ok (.goto 7, 3) := by decide +kernel
theorem dX11_bestPlace_38 : decode cX11_bestPlace 38 = .ok (.aload_n 0, 1) := by decide +kernel
theorem dX11_bestPlace_39 : decode cX11_bestPlace 39 = .ok (.getfield 147, 3) := by decide +kernel
theorem dX11_bestPlace_42 : decode cX11_bestPlace 42 = .ok (.ireturn, 1) := by decide +kernel
theorem dX11_troubled_0 : decode cX11_troubled 0 = .ok (.aload_n 0, 1) := by decide +kernel
theorem dX11_troubled_1 : decode cX11_troubled 1 = .ok (.iconst 0, 1) := by decide +kernel
theorem dX11_troubled_2 : decode cX11_troubled 2 = .ok (.putfield 37, 3) := by decide +kernel
theorem dX11_troubled_5 : decode cX11_troubled 5 = .ok (.iconst 0, 1) := by decide +kernel
theorem dX11_troubled_6 : decode cX11_troubled 6 = .ok (.istore_n 1, 1) := by decide +kernel
theorem dX11_troubled_7 : decode cX11_troubled 7 = .ok (.iconst 0, 1) := by decide +kernel
theorem dX11_troubled_8 : decode cX11_troubled 8 = .ok (.istore_n 2, 1) := by decide +kernel
theorem dX11_troubled_9 : decode cX11_troubled 9 = .ok (.iload_n 2, 1) := by decide +kernel
theorem dX11_troubled_10 : decode cX11_troubled 10 = .ok (.aload_n 0, 1) := by decide +kernel
theorem dX11_troubled_11 : decode cX11_troubled 11 = .ok (.getfield 7, 3) := by decide +kernel
theorem dX11_troubled_14 : decode cX11_troubled 14 = .ok (.iconst 1, 1) := by decide +kernel
theorem dX11_troubled_15 : decode cX11_troubled 15 = .ok (.iaload, 1) := by decide +kernel
theorem dX11_troubled_16 : decode cX11_troubled 16 = .ok (.if_icmp .ge 53, 3) := by decide +kernel
theorem dX11_troubled_19 : decode cX11_troubled 19 = .ok (.iload_n 1, 1) := by decide +kernel
theorem dX11_troubled_20 : decode cX11_troubled 20 = .ok (.aload_n 0, 1) := by decide +kernel
theorem dX11_troubled_21 : decode cX11_troubled 21 = .ok (.iload_n 2, 1) := by decide +kernel
theorem dX11_troubled_22 : decode cX11_troubled 22 = .ok (.invokevirtual 59, 3) := by decide +kernel
theorem dX11_troubled_25 : decode cX11_troubled 25 = .ok (.ifCond .eq 35, 3) := by decide +kernel
theorem dX11_troubled_28 : decode cX11_troubled 28 = .ok (.aload_n 0, 1) := by decide +kernel
theorem dX11_troubled_29 : decode cX11_troubled 29 = .ok (.iload_n 2, 1) := by decide +kernel
theorem dX11_troubled_30 : decode cX11_troubled 30 = .ok (.aload_n 0, 1) := by decide +kernel
theorem dX11_troubled_31 : decode cX11_troubled 31 = .ok (.iload_n 2, 1) := by decide +kernel
theorem dX11_troubled_32 : decode cX11_troubled 32 = .ok (.iconst 5, 1) := by decide +kernel
theorem dX11_troubled_33 : decode cX11_troubled 33 = .ok (.invokevirtual 56, 3) := by decide +kernel
theorem dX11_troubled_36 : decode cX11_troubled 36 = .ok (.aload_n 0, 1) := by decide +kernel
theorem dX11_troubled_37 : decode cX11_troubled 37 = .ok (.iload_n 2, 1) := by decide +kernel
theorem dX11_troubled_38 : decode cX11_troubled 38 = .ok (.bipush 6, 2) := by decide +kernel
theorem dX11_troubled_40 : decode cX11_troubled 40 = .ok (.invokevirtual 56, 3) := by decide +kernel
theorem dX11_troubled_43 : decode cX11_troubled 43 = .ok (.aload_n 0, 1) := by decide +kernel
theorem dX11_troubled_44 : decode cX11_troubled 44 = .ok (.iload_n 2, 1) := by decide +kernel
theorem dX11_troubled_45 : decode cX11_troubled 45 = .ok (.bipush 7, 2) := by decide +kernel
theorem dX11_troubled_47 : decode cX11_troubled 47 = .ok (.invokevirtual 56, 3) := by decide +kernel
theorem dX11_troubled_50 : decode cX11_troubled 50 = .ok (.invokevirtual 182, 3) := by decide +kernel
theorem dX11_troubled_53 : decode cX11_troubled 53 = .ok (.ifCond .eq 7, 3) := by decide +kernel
theorem dX11_troubled_56 : decode cX11_troubled 56 = .ok (.iconst 1, 1) := by decide +kernel
theorem dX11_troubled_57 : decode cX11_troubled 57 = .ok (.goto 4, 3) := by decide +kernel
theorem dX11_troubled_60 : decode cX11_troubled 60 = .ok (.iconst 0, 1) := by decide +kernel
theorem dX11_troubled_61 : decode cX11_troubled 61 = .ok (.iadd, 1) := by decide +kernel
theorem dX11_troubled_62 : decode cX11_troubled 62 = .ok (.istore_n 1, 1) := by decide +kernel
theorem dX11_troubled_63 : decode cX11_troubled 63 = .ok (.iinc 2 1, 3) := by decide +kernel
theorem dX11_troubled_66 : decode cX11_troubled 66 = .ok (.goto (-57), 3) := by decide +kernel
theorem dX11_troubled_69 : decode cX11_troubled 69 = .ok (.iload_n 1, 1) := by decide +kernel
theorem dX11_troubled_70 : decode cX11_troubled 70 = .ok (.ireturn, 1) := by decide +kernel
