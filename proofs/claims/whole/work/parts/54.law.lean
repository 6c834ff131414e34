/-! THE CLAIM OUT OF ONE WALK OF THE LAW'S BODY. Your part is whole_start (and what it stands on); all else here is the same for every law, but numbers. -/
def R_law : String := "QuoteGridLaw"
def lw_P (b : Addr) (xs : List Int32) (args : Array Value) (s : State) : Prop := args = #[.ref b] ∧ s.IntsAt b xs ∧ xs.length ≤ 2560 ∧ (Jvm.Cond.and given_1 narrow_1).before args s = true
def lw_Q (_ : Array Value) (s : State) (o : Outcome) (t : State) : Prop := o = .returned (some (.int 1)) ∧ Framed s o t [] 600000 7302250
def lw_Z (below : List Frame) (a : Array Value) (s : State) : State → Prop := fun t => ∃ o, t.status = .running ∧ Ended t below o ∧ lw_Q a s o t
/-- the law's own end, with 1 on the stack, nothing written that was there before, its room as the claim has it -/
theorem lw_ret {p : Program} {l : Launch} {e : Env} {s : State} {m : MethodId} {below : List Frame} {meth : Method} {c : Code} {b : Nat} (hx : p.tables.exec = Jvm.exec) (hb : c.code = code) (hr : meth.sig.returnType = ret) (hlocks : meth.locks = false) {pc : Nat} {H : Heap} {ls : Array Slot} (hdg : decode code pc = .ok (.ireturn, 1)) : W p l e room_1 s m #[Value.ref b] below meth c H [] 600000 7302250 (lw_Z below #[Value.ref b] s) (F0 m pc ls [.int 1]) := by
  intro T hT X
  obtain ⟨fs, hret, hrun, hended, hW, hframe⟩ := X.leave (v := some (.int 1)) (hlocks := hlocks) (fun h => by rw [hr] at h; cases h)
  have hmeth' : T.vm.method? m = some meth := X.method'
  refine ⟨T.setFrames fs, ?_, .returned (some (.int 1)), hrun, hended, rfl, ⟨_, rfl⟩, hW, hframe⟩
  jvm_step X.here [X.here.top, hx, hb, hdg, hmeth', hr, ret, narrow_b1]
  (try refine ⟨rfl, ?_⟩); (try refine ⟨rfl, ?_⟩)
  first | (intro acts; rw [hret _ acts rfl rfl rfl]) | rw [hret _ _ rfl rfl rfl]
  exact Steps.refl _
/-- what holds at the law's entry: the machine, the code, the tables' words (any of lw_tbl by 'hts w (by decide +kernel)'), the script of L ints xs at the cell b, what the Statement gives of the start (any of its parts by flat_of_before) -/
def lw_At (p : Program) (s : State) (m : MethodId) (meth : Method) (c : Code) (b L : Nat) (xs : Nat → Int32) : Prop :=
  p.tables.exec = Jvm.exec ∧ c.code = code ∧ meth.sig.returnType = ret ∧ c.maxLocals = 4 ∧ s.vm.findClass R_law = some m.cls ∧ (∀ w ∈ lw_tbl, w.before #[Value.ref b] s = true) ∧ va_X b L xs s s.heap ∧ b < s.heap.size ∧ meth.locks = false ∧ (Jvm.Cond.and given_1 narrow_1).before #[Value.ref b] s = true

/-! The law: its words and decode rows. -/
theorem wq_0 : Cond.methodLink R_law 13 yX10_addArticle ∈ mv_tb := mv_w 403 (by decide +kernel) (by decide +kernel)
theorem wq_1 : Cond.instanceMethod yX10_addArticle ∈ mv_tb := mv_w 404 (by decide +kernel) (by decide +kernel)
theorem wq_2 : Cond.selects RX10 yX10_addArticle yX10_addArticle ∈ mv_tb := mv_w 405 (by decide +kernel) (by decide +kernel)
theorem wq_3 : Cond.code yX10_addArticle cX10_addArticle 4 (some .int) ∈ mv_tb := mv_w 406 (by decide +kernel) (by decide +kernel)
theorem wq_4 : Cond.initialized RX10 ∈ mv_tb := mv_w 63 (by decide +kernel) (by decide +kernel)
theorem wq_5 : Cond.methodLink R_law 17 yX11_addArticle ∈ mv_tb := mv_w 869 (by decide +kernel) (by decide +kernel)
theorem wq_6 : Cond.instanceMethod yX11_addArticle ∈ mv_tb := mv_w 870 (by decide +kernel) (by decide +kernel)
theorem wq_7 : Cond.selects RX11 yX11_addArticle yX11_addArticle ∈ mv_tb := mv_w 871 (by decide +kernel) (by decide +kernel)
theorem wq_8 : Cond.code yX11_addArticle cX11_addArticle 3 (some .int) ∈ mv_tb := mv_w 872 (by decide +kernel) (by decide +kernel)
theorem wq_9 : Cond.initialized RX11 ∈ mv_tb := mv_w 74 (by decide +kernel) (by decide +kernel)
theorem wq_10 : Cond.methodLink R_law 18 yX10_removeArticle ∈ mv_tb := mv_w 449 (by decide +kernel) (by decide +kernel)
theorem wq_11 : Cond.instanceMethod yX10_removeArticle ∈ mv_tb := mv_w 450 (by decide +kernel) (by decide +kernel)
theorem wq_12 : Cond.selects RX10 yX10_removeArticle yX10_removeArticle ∈ mv_tb := mv_w 451 (by decide +kernel) (by decide +kernel)
theorem wq_13 : Cond.code yX10_removeArticle cX10_removeArticle 3 (some .int) ∈ mv_tb := mv_w 452 (by decide +kernel) (by decide +kernel)
theorem wq_14 : Cond.methodLink R_law 22 yX11_removeArticle ∈ mv_tb := mv_w 884 (by decide +kernel) (by decide +kernel)
theorem wq_15 : Cond.instanceMethod yX11_removeArticle ∈ mv_tb := mv_w 885 (by decide +kernel) (by decide +kernel)
theorem wq_16 : Cond.selects RX11 yX11_removeArticle yX11_removeArticle ∈ mv_tb := mv_w 886 (by decide +kernel) (by decide +kernel)
theorem wq_17 : Cond.code yX11_removeArticle cX11_removeArticle 3 (some .int) ∈ mv_tb := mv_w 887 (by decide +kernel) (by decide +kernel)
theorem wq_18 : Cond.methodLink R_law 23 yX10_setArticle ∈ mv_tb := mv_w 471 (by decide +kernel) (by decide +kernel)
theorem wq_19 : Cond.instanceMethod yX10_setArticle ∈ mv_tb := mv_w 472 (by decide +kernel) (by decide +kernel)
theorem wq_20 : Cond.selects RX10 yX10_setArticle yX10_setArticle ∈ mv_tb := mv_w 473 (by decide +kernel) (by decide +kernel)
theorem wq_21 : Cond.code yX10_setArticle cX10_setArticle 7 (some .int) ∈ mv_tb := mv_w 474 (by decide +kernel) (by decide +kernel)
theorem wq_22 : Cond.methodLink R_law 27 yX11_setArticle ∈ mv_tb := mv_w 904 (by decide +kernel) (by decide +kernel)
theorem wq_23 : Cond.instanceMethod yX11_setArticle ∈ mv_tb := mv_w 905 (by decide +kernel) (by decide +kernel)
theorem wq_24 : Cond.selects RX11 yX11_setArticle yX11_setArticle ∈ mv_tb := mv_w 906 (by decide +kernel) (by decide +kernel)
theorem wq_25 : Cond.code yX11_setArticle cX11_setArticle 5 (some .int) ∈ mv_tb := mv_w 907 (by decide +kernel) (by decide +kernel)
theorem wq_26 : Cond.methodLink R_law 28 yX10_addSentence ∈ mv_tb := mv_w 482 (by decide +kernel) (by decide +kernel)
theorem wq_27 : Cond.instanceMethod yX10_addSentence ∈ mv_tb := mv_w 483 (by decide +kernel) (by decide +kernel)
theorem wq_28 : Cond.selects RX10 yX10_addSentence yX10_addSentence ∈ mv_tb := mv_w 484 (by decide +kernel) (by decide +kernel)
theorem wq_29 : Cond.code yX10_addSentence cX10_addSentence 5 (some .int) ∈ mv_tb := mv_w 485 (by decide +kernel) (by decide +kernel)
theorem wq_30 : Cond.methodLink R_law 31 yX11_addSentence ∈ mv_tb := mv_w 919 (by decide +kernel) (by decide +kernel)
theorem wq_31 : Cond.instanceMethod yX11_addSentence ∈ mv_tb := mv_w 920 (by decide +kernel) (by decide +kernel)
theorem wq_32 : Cond.selects RX11 yX11_addSentence yX11_addSentence ∈ mv_tb := mv_w 921 (by decide +kernel) (by decide +kernel)
theorem wq_33 : Cond.code yX11_addSentence cX11_addSentence 3 (some .int) ∈ mv_tb := mv_w 922 (by decide +kernel) (by decide +kernel)
theorem wq_34 : Cond.methodLink R_law 32 yX10_addQuote ∈ mv_tb := mv_w 494 (by decide +kernel) (by decide +kernel)
theorem wq_35 : Cond.instanceMethod yX10_addQuote ∈ mv_tb := mv_w 495 (by decide +kernel) (by decide +kernel)
theorem wq_36 : Cond.selects RX10 yX10_addQuote yX10_addQuote ∈ mv_tb := mv_w 496 (by decide +kernel) (by decide +kernel)
theorem wq_37 : Cond.code yX10_addQuote cX10_addQuote 6 (some .int) ∈ mv_tb := mv_w 497 (by decide +kernel) (by decide +kernel)
theorem wq_38 : Cond.methodLink R_law 36 yX11_addQuote ∈ mv_tb := mv_w 927 (by decide +kernel) (by decide +kernel)
theorem wq_39 : Cond.instanceMethod yX11_addQuote ∈ mv_tb := mv_w 928 (by decide +kernel) (by decide +kernel)
theorem wq_40 : Cond.selects RX11 yX11_addQuote yX11_addQuote ∈ mv_tb := mv_w 929 (by decide +kernel) (by decide +kernel)
theorem wq_41 : Cond.code yX11_addQuote cX11_addQuote 5 (some .int) ∈ mv_tb := mv_w 930 (by decide +kernel) (by decide +kernel)
theorem wq_42 : Cond.methodLink R_law 37 yX10_removeQuote ∈ mv_tb := mv_w 506 (by decide +kernel) (by decide +kernel)
theorem wq_43 : Cond.instanceMethod yX10_removeQuote ∈ mv_tb := mv_w 507 (by decide +kernel) (by decide +kernel)
theorem wq_44 : Cond.selects RX10 yX10_removeQuote yX10_removeQuote ∈ mv_tb := mv_w 508 (by decide +kernel) (by decide +kernel)
theorem wq_45 : Cond.code yX10_removeQuote cX10_removeQuote 3 (some .int) ∈ mv_tb := mv_w 509 (by decide +kernel) (by decide +kernel)
theorem wq_46 : Cond.methodLink R_law 40 yX11_removeQuote ∈ mv_tb := mv_w 943 (by decide +kernel) (by decide +kernel)
theorem wq_47 : Cond.instanceMethod yX11_removeQuote ∈ mv_tb := mv_w 944 (by decide +kernel) (by decide +kernel)
theorem wq_48 : Cond.selects RX11 yX11_removeQuote yX11_removeQuote ∈ mv_tb := mv_w 945 (by decide +kernel) (by decide +kernel)
theorem wq_49 : Cond.code yX11_removeQuote cX11_removeQuote 2 (some .int) ∈ mv_tb := mv_w 946 (by decide +kernel) (by decide +kernel)
theorem wq_50 : Cond.methodLink R_law 41 yX10_place ∈ mv_tb := mv_w 512 (by decide +kernel) (by decide +kernel)
theorem wq_51 : Cond.instanceMethod yX10_place ∈ mv_tb := mv_w 513 (by decide +kernel) (by decide +kernel)
theorem wq_52 : Cond.selects RX10 yX10_place yX10_place ∈ mv_tb := mv_w 514 (by decide +kernel) (by decide +kernel)
theorem wq_53 : Cond.code yX10_place cX10_place 7 (some .int) ∈ mv_tb := mv_w 515 (by decide +kernel) (by decide +kernel)
theorem wq_54 : Cond.methodLink R_law 44 yX11_place ∈ mv_tb := mv_w 951 (by decide +kernel) (by decide +kernel)
theorem wq_55 : Cond.instanceMethod yX11_place ∈ mv_tb := mv_w 952 (by decide +kernel) (by decide +kernel)
theorem wq_56 : Cond.selects RX11 yX11_place yX11_place ∈ mv_tb := mv_w 953 (by decide +kernel) (by decide +kernel)
theorem wq_57 : Cond.code yX11_place cX11_place 5 (some .int) ∈ mv_tb := mv_w 954 (by decide +kernel) (by decide +kernel)
theorem wq_58 : Cond.methodLink R_law 45 yX10_lift ∈ mv_tb := mv_w 626 (by decide +kernel) (by decide +kernel)
theorem wq_59 : Cond.instanceMethod yX10_lift ∈ mv_tb := mv_w 627 (by decide +kernel) (by decide +kernel)
theorem wq_60 : Cond.selects RX10 yX10_lift yX10_lift ∈ mv_tb := mv_w 628 (by decide +kernel) (by decide +kernel)
theorem wq_61 : Cond.code yX10_lift cX10_lift 3 (some .int) ∈ mv_tb := mv_w 629 (by decide +kernel) (by decide +kernel)
theorem wq_62 : Cond.methodLink R_law 48 yX11_lift ∈ mv_tb := mv_w 1044 (by decide +kernel) (by decide +kernel)
theorem wq_63 : Cond.instanceMethod yX11_lift ∈ mv_tb := mv_w 1045 (by decide +kernel) (by decide +kernel)
theorem wq_64 : Cond.selects RX11 yX11_lift yX11_lift ∈ mv_tb := mv_w 1046 (by decide +kernel) (by decide +kernel)
theorem wq_65 : Cond.code yX11_lift cX11_lift 2 (some .int) ∈ mv_tb := mv_w 1047 (by decide +kernel) (by decide +kernel)
theorem wq_66 : Cond.methodLink R_law 49 yX10_floatAll ∈ mv_tb := mv_w 630 (by decide +kernel) (by decide +kernel)
theorem wq_67 : Cond.instanceMethod yX10_floatAll ∈ mv_tb := mv_w 631 (by decide +kernel) (by decide +kernel)
theorem wq_68 : Cond.selects RX10 yX10_floatAll yX10_floatAll ∈ mv_tb := mv_w 632 (by decide +kernel) (by decide +kernel)
theorem wq_69 : Cond.code yX10_floatAll cX10_floatAll 5 (some .int) ∈ mv_tb := mv_w 633 (by decide +kernel) (by decide +kernel)
theorem wq_70 : Cond.methodLink R_law 53 yX11_floatAll ∈ mv_tb := mv_w 1048 (by decide +kernel) (by decide +kernel)
theorem wq_71 : Cond.instanceMethod yX11_floatAll ∈ mv_tb := mv_w 1049 (by decide +kernel) (by decide +kernel)
theorem wq_72 : Cond.selects RX11 yX11_floatAll yX11_floatAll ∈ mv_tb := mv_w 1050 (by decide +kernel) (by decide +kernel)
theorem wq_73 : Cond.code yX11_floatAll cX11_floatAll 4 (some .int) ∈ mv_tb := mv_w 1051 (by decide +kernel) (by decide +kernel)
theorem wq_74 : Cond.methodLink R_law 54 yX10_setRule ∈ mv_tb := mv_w 645 (by decide +kernel) (by decide +kernel)
theorem wq_75 : Cond.instanceMethod yX10_setRule ∈ mv_tb := mv_w 646 (by decide +kernel) (by decide +kernel)
theorem wq_76 : Cond.selects RX10 yX10_setRule yX10_setRule ∈ mv_tb := mv_w 647 (by decide +kernel) (by decide +kernel)
theorem wq_77 : Cond.code yX10_setRule cX10_setRule 6 (some .int) ∈ mv_tb := mv_w 648 (by decide +kernel) (by decide +kernel)
theorem wq_78 : Cond.methodLink R_law 57 yX11_setRule ∈ mv_tb := mv_w 1056 (by decide +kernel) (by decide +kernel)
theorem wq_79 : Cond.instanceMethod yX11_setRule ∈ mv_tb := mv_w 1057 (by decide +kernel) (by decide +kernel)
theorem wq_80 : Cond.selects RX11 yX11_setRule yX11_setRule ∈ mv_tb := mv_w 1058 (by decide +kernel) (by decide +kernel)
theorem wq_81 : Cond.code yX11_setRule cX11_setRule 5 (some .int) ∈ mv_tb := mv_w 1059 (by decide +kernel) (by decide +kernel)
theorem wq_82 : Cond.methodLink R_law 58 yX10_take ∈ mv_tb := mv_w 649 (by decide +kernel) (by decide +kernel)
theorem wq_83 : Cond.instanceMethod yX10_take ∈ mv_tb := mv_w 650 (by decide +kernel) (by decide +kernel)
theorem wq_84 : Cond.selects RX10 yX10_take yX10_take ∈ mv_tb := mv_w 651 (by decide +kernel) (by decide +kernel)
theorem wq_85 : Cond.code yX10_take cX10_take 2 (some .int) ∈ mv_tb := mv_w 652 (by decide +kernel) (by decide +kernel)
theorem wq_86 : Cond.methodLink R_law 61 yX11_take ∈ mv_tb := mv_w 1060 (by decide +kernel) (by decide +kernel)
theorem wq_87 : Cond.instanceMethod yX11_take ∈ mv_tb := mv_w 1061 (by decide +kernel) (by decide +kernel)
theorem wq_88 : Cond.selects RX11 yX11_take yX11_take ∈ mv_tb := mv_w 1062 (by decide +kernel) (by decide +kernel)
theorem wq_89 : Cond.code yX11_take cX11_take 4 (some .int) ∈ mv_tb := mv_w 1063 (by decide +kernel) (by decide +kernel)
theorem wq_90 : Cond.methodLink R_law 62 yX10_restore ∈ mv_tb := mv_w 658 (by decide +kernel) (by decide +kernel)
theorem wq_91 : Cond.instanceMethod yX10_restore ∈ mv_tb := mv_w 659 (by decide +kernel) (by decide +kernel)
theorem wq_92 : Cond.selects RX10 yX10_restore yX10_restore ∈ mv_tb := mv_w 660 (by decide +kernel) (by decide +kernel)
theorem wq_93 : Cond.code yX10_restore cX10_restore 2 (some .int) ∈ mv_tb := mv_w 661 (by decide +kernel) (by decide +kernel)
theorem wq_94 : Cond.methodLink R_law 65 yX11_restore ∈ mv_tb := mv_w 1068 (by decide +kernel) (by decide +kernel)
theorem wq_95 : Cond.instanceMethod yX11_restore ∈ mv_tb := mv_w 1069 (by decide +kernel) (by decide +kernel)
theorem wq_96 : Cond.selects RX11 yX11_restore yX11_restore ∈ mv_tb := mv_w 1070 (by decide +kernel) (by decide +kernel)
theorem wq_97 : Cond.code yX11_restore cX11_restore 4 (some .int) ∈ mv_tb := mv_w 1071 (by decide +kernel) (by decide +kernel)
theorem wq_98 : Cond.methodLink R_law 66 yX10_undo ∈ mv_tb := mv_w 662 (by decide +kernel) (by decide +kernel)
theorem wq_99 : Cond.instanceMethod yX10_undo ∈ mv_tb := mv_w 663 (by decide +kernel) (by decide +kernel)
theorem wq_100 : Cond.selects RX10 yX10_undo yX10_undo ∈ mv_tb := mv_w 664 (by decide +kernel) (by decide +kernel)
theorem wq_101 : Cond.code yX10_undo cX10_undo 1 (some .int) ∈ mv_tb := mv_w 665 (by decide +kernel) (by decide +kernel)
theorem wq_102 : Cond.methodLink R_law 69 yX11_undo ∈ mv_tb := mv_w 1072 (by decide +kernel) (by decide +kernel)
theorem wq_103 : Cond.instanceMethod yX11_undo ∈ mv_tb := mv_w 1073 (by decide +kernel) (by decide +kernel)
theorem wq_104 : Cond.selects RX11 yX11_undo yX11_undo ∈ mv_tb := mv_w 1074 (by decide +kernel) (by decide +kernel)
theorem wq_105 : Cond.code yX11_undo cX11_undo 2 (some .int) ∈ mv_tb := mv_w 1075 (by decide +kernel) (by decide +kernel)
theorem wq_106 : Cond.methodLink R_law 70 yX10_append ∈ mv_tb := mv_w 670 (by decide +kernel) (by decide +kernel)
theorem wq_107 : Cond.instanceMethod yX10_append ∈ mv_tb := mv_w 671 (by decide +kernel) (by decide +kernel)
theorem wq_108 : Cond.selects RX10 yX10_append yX10_append ∈ mv_tb := mv_w 672 (by decide +kernel) (by decide +kernel)
theorem wq_109 : Cond.code yX10_append cX10_append 2 (some .int) ∈ mv_tb := mv_w 673 (by decide +kernel) (by decide +kernel)
theorem wq_110 : Cond.methodLink R_law 73 yX11_append ∈ mv_tb := mv_w 1076 (by decide +kernel) (by decide +kernel)
theorem wq_111 : Cond.instanceMethod yX11_append ∈ mv_tb := mv_w 1077 (by decide +kernel) (by decide +kernel)
theorem wq_112 : Cond.selects RX11 yX11_append yX11_append ∈ mv_tb := mv_w 1078 (by decide +kernel) (by decide +kernel)
theorem wq_113 : Cond.code yX11_append cX11_append 2 (some .int) ∈ mv_tb := mv_w 1079 (by decide +kernel) (by decide +kernel)
theorem wq_114 : Cond.methodLink R_law 74 yX10_clearText ∈ mv_tb := mv_w 674 (by decide +kernel) (by decide +kernel)
theorem wq_115 : Cond.instanceMethod yX10_clearText ∈ mv_tb := mv_w 675 (by decide +kernel) (by decide +kernel)
theorem wq_116 : Cond.selects RX10 yX10_clearText yX10_clearText ∈ mv_tb := mv_w 676 (by decide +kernel) (by decide +kernel)
theorem wq_117 : Cond.code yX10_clearText cX10_clearText 2 (some .int) ∈ mv_tb := mv_w 677 (by decide +kernel) (by decide +kernel)
theorem wq_118 : Cond.methodLink R_law 77 yX11_clearText ∈ mv_tb := mv_w 1080 (by decide +kernel) (by decide +kernel)
theorem wq_119 : Cond.instanceMethod yX11_clearText ∈ mv_tb := mv_w 1081 (by decide +kernel) (by decide +kernel)
theorem wq_120 : Cond.selects RX11 yX11_clearText yX11_clearText ∈ mv_tb := mv_w 1082 (by decide +kernel) (by decide +kernel)
theorem wq_121 : Cond.code yX11_clearText cX11_clearText 2 (some .int) ∈ mv_tb := mv_w 1083 (by decide +kernel) (by decide +kernel)
theorem wq_122 : Cond.methodLink R_law 78 yX10_load ∈ mv_tb := mv_w 678 (by decide +kernel) (by decide +kernel)
theorem wq_123 : Cond.instanceMethod yX10_load ∈ mv_tb := mv_w 679 (by decide +kernel) (by decide +kernel)
theorem wq_124 : Cond.selects RX10 yX10_load yX10_load ∈ mv_tb := mv_w 680 (by decide +kernel) (by decide +kernel)
theorem wq_125 : Cond.code yX10_load cX10_load 1 (some .int) ∈ mv_tb := mv_w 681 (by decide +kernel) (by decide +kernel)
theorem wq_126 : Cond.methodLink R_law 81 yX11_load ∈ mv_tb := mv_w 1084 (by decide +kernel) (by decide +kernel)
theorem wq_127 : Cond.instanceMethod yX11_load ∈ mv_tb := mv_w 1085 (by decide +kernel) (by decide +kernel)
theorem wq_128 : Cond.selects RX11 yX11_load yX11_load ∈ mv_tb := mv_w 1086 (by decide +kernel) (by decide +kernel)
theorem wq_129 : Cond.code yX11_load cX11_load 3 (some .int) ∈ mv_tb := mv_w 1087 (by decide +kernel) (by decide +kernel)
theorem wq_130 : Cond.methodLink R_law 82 yX10_count ∈ mv_tb := mv_w 733 (by decide +kernel) (by decide +kernel)
theorem wq_131 : Cond.instanceMethod yX10_count ∈ mv_tb := mv_w 734 (by decide +kernel) (by decide +kernel)
theorem wq_132 : Cond.selects RX10 yX10_count yX10_count ∈ mv_tb := mv_w 735 (by decide +kernel) (by decide +kernel)
theorem wq_133 : Cond.code yX10_count cX10_count 3 (some .int) ∈ mv_tb := mv_w 736 (by decide +kernel) (by decide +kernel)
theorem wq_134 : Cond.methodLink R_law 85 yX11_count ∈ mv_tb := mv_w 1125 (by decide +kernel) (by decide +kernel)
theorem wq_135 : Cond.instanceMethod yX11_count ∈ mv_tb := mv_w 1126 (by decide +kernel) (by decide +kernel)
theorem wq_136 : Cond.selects RX11 yX11_count yX11_count ∈ mv_tb := mv_w 1127 (by decide +kernel) (by decide +kernel)
theorem wq_137 : Cond.code yX11_count cX11_count 2 (some .int) ∈ mv_tb := mv_w 1128 (by decide +kernel) (by decide +kernel)
theorem wq_138 : Cond.methodLink R_law 86 yX10_article ∈ mv_tb := mv_w 758 (by decide +kernel) (by decide +kernel)
theorem wq_139 : Cond.instanceMethod yX10_article ∈ mv_tb := mv_w 759 (by decide +kernel) (by decide +kernel)
theorem wq_140 : Cond.selects RX10 yX10_article yX10_article ∈ mv_tb := mv_w 760 (by decide +kernel) (by decide +kernel)
theorem wq_141 : Cond.code yX10_article cX10_article 5 (some .int) ∈ mv_tb := mv_w 761 (by decide +kernel) (by decide +kernel)
theorem wq_142 : Cond.methodLink R_law 89 yX11_article ∈ mv_tb := mv_w 1137 (by decide +kernel) (by decide +kernel)
theorem wq_143 : Cond.instanceMethod yX11_article ∈ mv_tb := mv_w 1138 (by decide +kernel) (by decide +kernel)
theorem wq_144 : Cond.selects RX11 yX11_article yX11_article ∈ mv_tb := mv_w 1139 (by decide +kernel) (by decide +kernel)
theorem wq_145 : Cond.code yX11_article cX11_article 4 (some .int) ∈ mv_tb := mv_w 1140 (by decide +kernel) (by decide +kernel)
theorem wq_146 : Cond.methodLink R_law 90 yX10_lineAt ∈ mv_tb := mv_w 763 (by decide +kernel) (by decide +kernel)
theorem wq_147 : Cond.instanceMethod yX10_lineAt ∈ mv_tb := mv_w 764 (by decide +kernel) (by decide +kernel)
theorem wq_148 : Cond.selects RX10 yX10_lineAt yX10_lineAt ∈ mv_tb := mv_w 765 (by decide +kernel) (by decide +kernel)
theorem wq_149 : Cond.code yX10_lineAt cX10_lineAt 3 (some .int) ∈ mv_tb := mv_w 766 (by decide +kernel) (by decide +kernel)
theorem wq_150 : Cond.methodLink R_law 93 yX11_lineAt ∈ mv_tb := mv_w 1141 (by decide +kernel) (by decide +kernel)
theorem wq_151 : Cond.instanceMethod yX11_lineAt ∈ mv_tb := mv_w 1142 (by decide +kernel) (by decide +kernel)
theorem wq_152 : Cond.selects RX11 yX11_lineAt yX11_lineAt ∈ mv_tb := mv_w 1143 (by decide +kernel) (by decide +kernel)
theorem wq_153 : Cond.code yX11_lineAt cX11_lineAt 3 (some .int) ∈ mv_tb := mv_w 1144 (by decide +kernel) (by decide +kernel)
theorem wq_154 : Cond.methodLink R_law 94 yX10_sentence ∈ mv_tb := mv_w 767 (by decide +kernel) (by decide +kernel)
theorem wq_155 : Cond.instanceMethod yX10_sentence ∈ mv_tb := mv_w 768 (by decide +kernel) (by decide +kernel)
theorem wq_156 : Cond.selects RX10 yX10_sentence yX10_sentence ∈ mv_tb := mv_w 769 (by decide +kernel) (by decide +kernel)
theorem wq_157 : Cond.code yX10_sentence cX10_sentence 5 (some .int) ∈ mv_tb := mv_w 770 (by decide +kernel) (by decide +kernel)
theorem wq_158 : Cond.methodLink R_law 97 yX11_sentence ∈ mv_tb := mv_w 1145 (by decide +kernel) (by decide +kernel)
theorem wq_159 : Cond.instanceMethod yX11_sentence ∈ mv_tb := mv_w 1146 (by decide +kernel) (by decide +kernel)
theorem wq_160 : Cond.selects RX11 yX11_sentence yX11_sentence ∈ mv_tb := mv_w 1147 (by decide +kernel) (by decide +kernel)
theorem wq_161 : Cond.code yX11_sentence cX11_sentence 5 (some .int) ∈ mv_tb := mv_w 1148 (by decide +kernel) (by decide +kernel)
theorem wq_162 : Cond.methodLink R_law 98 yX10_quote ∈ mv_tb := mv_w 771 (by decide +kernel) (by decide +kernel)
theorem wq_163 : Cond.instanceMethod yX10_quote ∈ mv_tb := mv_w 772 (by decide +kernel) (by decide +kernel)
theorem wq_164 : Cond.selects RX10 yX10_quote yX10_quote ∈ mv_tb := mv_w 773 (by decide +kernel) (by decide +kernel)
theorem wq_165 : Cond.code yX10_quote cX10_quote 4 (some .int) ∈ mv_tb := mv_w 774 (by decide +kernel) (by decide +kernel)
theorem wq_166 : Cond.methodLink R_law 101 yX11_quote ∈ mv_tb := mv_w 1149 (by decide +kernel) (by decide +kernel)
theorem wq_167 : Cond.instanceMethod yX11_quote ∈ mv_tb := mv_w 1150 (by decide +kernel) (by decide +kernel)
theorem wq_168 : Cond.selects RX11 yX11_quote yX11_quote ∈ mv_tb := mv_w 1151 (by decide +kernel) (by decide +kernel)
theorem wq_169 : Cond.code yX11_quote cX11_quote 3 (some .int) ∈ mv_tb := mv_w 1152 (by decide +kernel) (by decide +kernel)
theorem wq_170 : Cond.methodLink R_law 102 yX10_module ∈ mv_tb := mv_w 776 (by decide +kernel) (by decide +kernel)
theorem wq_171 : Cond.instanceMethod yX10_module ∈ mv_tb := mv_w 777 (by decide +kernel) (by decide +kernel)
theorem wq_172 : Cond.selects RX10 yX10_module yX10_module ∈ mv_tb := mv_w 778 (by decide +kernel) (by decide +kernel)
theorem wq_173 : Cond.code yX10_module cX10_module 2 (some .int) ∈ mv_tb := mv_w 779 (by decide +kernel) (by decide +kernel)
theorem wq_174 : Cond.methodLink R_law 105 yX11_module ∈ mv_tb := mv_w 1153 (by decide +kernel) (by decide +kernel)
theorem wq_175 : Cond.instanceMethod yX11_module ∈ mv_tb := mv_w 1154 (by decide +kernel) (by decide +kernel)
theorem wq_176 : Cond.selects RX11 yX11_module yX11_module ∈ mv_tb := mv_w 1155 (by decide +kernel) (by decide +kernel)
theorem wq_177 : Cond.code yX11_module cX11_module 2 (some .int) ∈ mv_tb := mv_w 1156 (by decide +kernel) (by decide +kernel)
theorem wq_178 : Cond.methodLink R_law 106 yX10_page ∈ mv_tb := mv_w 780 (by decide +kernel) (by decide +kernel)
theorem wq_179 : Cond.instanceMethod yX10_page ∈ mv_tb := mv_w 781 (by decide +kernel) (by decide +kernel)
theorem wq_180 : Cond.selects RX10 yX10_page yX10_page ∈ mv_tb := mv_w 782 (by decide +kernel) (by decide +kernel)
theorem wq_181 : Cond.code yX10_page cX10_page 6 (some .int) ∈ mv_tb := mv_w 783 (by decide +kernel) (by decide +kernel)
theorem wq_182 : Cond.methodLink R_law 109 yX11_page ∈ mv_tb := mv_w 1157 (by decide +kernel) (by decide +kernel)
theorem wq_183 : Cond.instanceMethod yX11_page ∈ mv_tb := mv_w 1158 (by decide +kernel) (by decide +kernel)
theorem wq_184 : Cond.selects RX11 yX11_page yX11_page ∈ mv_tb := mv_w 1159 (by decide +kernel) (by decide +kernel)
theorem wq_185 : Cond.code yX11_page cX11_page 4 (some .int) ∈ mv_tb := mv_w 1160 (by decide +kernel) (by decide +kernel)
theorem wq_186 : Cond.methodLink R_law 110 yX10_refusal ∈ mv_tb := mv_w 785 (by decide +kernel) (by decide +kernel)
theorem wq_187 : Cond.instanceMethod yX10_refusal ∈ mv_tb := mv_w 786 (by decide +kernel) (by decide +kernel)
theorem wq_188 : Cond.selects RX10 yX10_refusal yX10_refusal ∈ mv_tb := mv_w 787 (by decide +kernel) (by decide +kernel)
theorem wq_189 : Cond.code yX10_refusal cX10_refusal 5 (some .int) ∈ mv_tb := mv_w 788 (by decide +kernel) (by decide +kernel)
theorem wq_190 : Cond.methodLink R_law 113 yX11_refusal ∈ mv_tb := mv_w 1161 (by decide +kernel) (by decide +kernel)
theorem wq_191 : Cond.instanceMethod yX11_refusal ∈ mv_tb := mv_w 1162 (by decide +kernel) (by decide +kernel)
theorem wq_192 : Cond.selects RX11 yX11_refusal yX11_refusal ∈ mv_tb := mv_w 1163 (by decide +kernel) (by decide +kernel)
theorem wq_193 : Cond.code yX11_refusal cX11_refusal 5 (some .int) ∈ mv_tb := mv_w 1164 (by decide +kernel) (by decide +kernel)
theorem wq_194 : Cond.methodLink R_law 114 yX10_bestPlace ∈ mv_tb := mv_w 789 (by decide +kernel) (by decide +kernel)
theorem wq_195 : Cond.instanceMethod yX10_bestPlace ∈ mv_tb := mv_w 790 (by decide +kernel) (by decide +kernel)
theorem wq_196 : Cond.selects RX10 yX10_bestPlace yX10_bestPlace ∈ mv_tb := mv_w 791 (by decide +kernel) (by decide +kernel)
theorem wq_197 : Cond.code yX10_bestPlace cX10_bestPlace 3 (some .int) ∈ mv_tb := mv_w 792 (by decide +kernel) (by decide +kernel)
theorem wq_198 : Cond.methodLink R_law 117 yX11_bestPlace ∈ mv_tb := mv_w 1165 (by decide +kernel) (by decide +kernel)
theorem wq_199 : Cond.instanceMethod yX11_bestPlace ∈ mv_tb := mv_w 1166 (by decide +kernel) (by decide +kernel)
theorem wq_200 : Cond.selects RX11 yX11_bestPlace yX11_bestPlace ∈ mv_tb := mv_w 1167 (by decide +kernel) (by decide +kernel)
theorem wq_201 : Cond.code yX11_bestPlace cX11_bestPlace 4 (some .int) ∈ mv_tb := mv_w 1168 (by decide +kernel) (by decide +kernel)
theorem wq_202 : Cond.methodLink R_law 118 yX10_troubled ∈ mv_tb := mv_w 793 (by decide +kernel) (by decide +kernel)
theorem wq_203 : Cond.instanceMethod yX10_troubled ∈ mv_tb := mv_w 794 (by decide +kernel) (by decide +kernel)
theorem wq_204 : Cond.selects RX10 yX10_troubled yX10_troubled ∈ mv_tb := mv_w 795 (by decide +kernel) (by decide +kernel)
theorem wq_205 : Cond.code yX10_troubled cX10_troubled 5 (some .int) ∈ mv_tb := mv_w 796 (by decide +kernel) (by decide +kernel)
theorem wq_206 : Cond.methodLink R_law 121 yX11_troubled ∈ mv_tb := mv_w 1169 (by decide +kernel) (by decide +kernel)
theorem wq_207 : Cond.instanceMethod yX11_troubled ∈ mv_tb := mv_w 1170 (by decide +kernel) (by decide +kernel)
theorem wq_208 : Cond.selects RX11 yX11_troubled yX11_troubled ∈ mv_tb := mv_w 1171 (by decide +kernel) (by decide +kernel)
theorem wq_209 : Cond.code yX11_troubled cX11_troubled 3 (some .int) ∈ mv_tb := mv_w 1172 (by decide +kernel) (by decide +kernel)
theorem wq_210 : Cond.methodLink R_law 122 yX10_roomFor ∈ mv_tb := mv_w 797 (by decide +kernel) (by decide +kernel)
theorem wq_211 : Cond.instanceMethod yX10_roomFor ∈ mv_tb := mv_w 798 (by decide +kernel) (by decide +kernel)
theorem wq_212 : Cond.selects RX10 yX10_roomFor yX10_roomFor ∈ mv_tb := mv_w 799 (by decide +kernel) (by decide +kernel)
theorem wq_213 : Cond.code yX10_roomFor cX10_roomFor 2 (some .int) ∈ mv_tb := mv_w 800 (by decide +kernel) (by decide +kernel)
theorem wq_214 : Cond.methodLink R_law 125 yX11_roomFor ∈ mv_tb := mv_w 1173 (by decide +kernel) (by decide +kernel)
theorem wq_215 : Cond.instanceMethod yX11_roomFor ∈ mv_tb := mv_w 1174 (by decide +kernel) (by decide +kernel)
theorem wq_216 : Cond.selects RX11 yX11_roomFor yX11_roomFor ∈ mv_tb := mv_w 1175 (by decide +kernel) (by decide +kernel)
theorem wq_217 : Cond.code yX11_roomFor cX11_roomFor 5 (some .int) ∈ mv_tb := mv_w 1176 (by decide +kernel) (by decide +kernel)
theorem wq_218 : Cond.instantiable RX0 4 ∈ mv_tb := mv_w 102 (by decide +kernel) (by decide +kernel)
theorem wq_219 : Cond.instantiable RX1 5 ∈ mv_tb := mv_w 93 (by decide +kernel) (by decide +kernel)
theorem wq_220 : Cond.instantiable RX2 5 ∈ mv_tb := mv_w 319 (by decide +kernel) (by decide +kernel)
theorem wq_221 : Cond.instantiable RX3 2 ∈ mv_tb := mv_w 243 (by decide +kernel) (by decide +kernel)
theorem wq_222 : Cond.instantiable RX4 3 ∈ mv_tb := mv_w 312 (by decide +kernel) (by decide +kernel)
theorem wq_223 : Cond.instantiable RX5 8 ∈ mv_tb := mv_w 135 (by decide +kernel) (by decide +kernel)
theorem wq_224 : Cond.instantiable RX6 5 ∈ mv_tb := mv_w 260 (by decide +kernel) (by decide +kernel)
theorem wq_225 : Cond.instantiable RX7 3 ∈ mv_tb := mv_w 87 (by decide +kernel) (by decide +kernel)
theorem wq_226 : Cond.instantiable RX8 2 ∈ mv_tb := mv_w 266 (by decide +kernel) (by decide +kernel)
theorem wq_227 : Cond.instantiable RX9 6 ∈ mv_tb := mv_w 304 (by decide +kernel) (by decide +kernel)
theorem wq_228 : Cond.instantiable RX10 7 ∈ mv_tb := mv_w 79 (by decide +kernel) (by decide +kernel)
theorem wq_229 : Cond.instantiable RX11 19 ∈ mv_tb := mv_w 806 (by decide +kernel) (by decide +kernel)
theorem wq_230 : Cond.classLink R_law 7 RX10 ∈ mv_tb := mv_w 78 (by decide +kernel) (by decide +kernel)
theorem wq_231 : Cond.methodLink R_law 9 yX10_init ∈ mv_tb := mv_w 80 (by decide +kernel) (by decide +kernel)
theorem wq_232 : Cond.instanceMethod yX10_init ∈ mv_tb := mv_w 81 (by decide +kernel) (by decide +kernel)
theorem wq_233 : Cond.classLink R_law 10 RX11 ∈ mv_tb := mv_w 805 (by decide +kernel) (by decide +kernel)
theorem wq_234 : Cond.methodLink R_law 12 yX11_init ∈ mv_tb := mv_w 807 (by decide +kernel) (by decide +kernel)
theorem wq_235 : Cond.instanceMethod yX11_init ∈ mv_tb := mv_w 808 (by decide +kernel) (by decide +kernel)
theorem wq_236 : Cond.arrayClass .int ∈ mv_tb := mv_w 134 (by decide +kernel) (by decide +kernel)
theorem wq_237 : Cond.arrayClass .boolean ∈ mv_tb := mv_w 241 (by decide +kernel) (by decide +kernel)
theorem wq_238 : Cond.arrayOver (.object RX0) ∈ lw_tbl := List.mem_of_getElem? (i := 99) (by decide +kernel)
theorem wq_239 : Cond.arrayOver (.object RX5) ∈ lw_tbl := List.mem_of_getElem? (i := 101) (by decide +kernel)
theorem wq_240 : Cond.arrayOver (.object RX1) ∈ lw_tbl := List.mem_of_getElem? (i := 227) (by decide +kernel)
theorem wq_241 : Cond.arrayOver (.object RX7) ∈ lw_tbl := List.mem_of_getElem? (i := 249) (by decide +kernel)
theorem wq_242 : Cond.arrayOver (.object RX2) ∈ lw_tbl := List.mem_of_getElem? (i := 318) (by decide +kernel)
theorem yl_X10_addArticle : mv_Yk yX10_addArticle cX10_addArticle 4 (some .int) 2 := ⟨wq_3, wq_4, by decide +kernel, by decide +kernel, by decide⟩
theorem yl_X11_addArticle : mv_Yk yX11_addArticle cX11_addArticle 3 (some .int) 2 := ⟨wq_8, wq_9, by decide +kernel, by decide +kernel, by decide⟩
theorem yl_X10_removeArticle : mv_Yk yX10_removeArticle cX10_removeArticle 3 (some .int) 1 := ⟨wq_13, wq_4, by decide +kernel, by decide +kernel, by decide⟩
theorem yl_X11_removeArticle : mv_Yk yX11_removeArticle cX11_removeArticle 3 (some .int) 1 := ⟨wq_17, wq_9, by decide +kernel, by decide +kernel, by decide⟩
theorem yl_X10_setArticle : mv_Yk yX10_setArticle cX10_setArticle 7 (some .int) 3 := ⟨wq_21, wq_4, by decide +kernel, by decide +kernel, by decide⟩
theorem yl_X11_setArticle : mv_Yk yX11_setArticle cX11_setArticle 5 (some .int) 3 := ⟨wq_25, wq_9, by decide +kernel, by decide +kernel, by decide⟩
theorem yl_X10_addSentence : mv_Yk yX10_addSentence cX10_addSentence 5 (some .int) 2 := ⟨wq_29, wq_4, by decide +kernel, by decide +kernel, by decide⟩
theorem yl_X11_addSentence : mv_Yk yX11_addSentence cX11_addSentence 3 (some .int) 2 := ⟨wq_33, wq_9, by decide +kernel, by decide +kernel, by decide⟩
theorem yl_X10_addQuote : mv_Yk yX10_addQuote cX10_addQuote 6 (some .int) 4 := ⟨wq_37, wq_4, by decide +kernel, by decide +kernel, by decide⟩
theorem yl_X11_addQuote : mv_Yk yX11_addQuote cX11_addQuote 5 (some .int) 4 := ⟨wq_41, wq_9, by decide +kernel, by decide +kernel, by decide⟩
theorem yl_X10_removeQuote : mv_Yk yX10_removeQuote cX10_removeQuote 3 (some .int) 1 := ⟨wq_45, wq_4, by decide +kernel, by decide +kernel, by decide⟩
theorem yl_X11_removeQuote : mv_Yk yX11_removeQuote cX11_removeQuote 2 (some .int) 1 := ⟨wq_49, wq_9, by decide +kernel, by decide +kernel, by decide⟩
theorem yl_X10_place : mv_Yk yX10_place cX10_place 7 (some .int) 4 := ⟨wq_53, wq_4, by decide +kernel, by decide +kernel, by decide⟩
theorem yl_X11_place : mv_Yk yX11_place cX11_place 5 (some .int) 4 := ⟨wq_57, wq_9, by decide +kernel, by decide +kernel, by decide⟩
theorem yl_X10_lift : mv_Yk yX10_lift cX10_lift 3 (some .int) 1 := ⟨wq_61, wq_4, by decide +kernel, by decide +kernel, by decide⟩
theorem yl_X11_lift : mv_Yk yX11_lift cX11_lift 2 (some .int) 1 := ⟨wq_65, wq_9, by decide +kernel, by decide +kernel, by decide⟩
theorem yl_X10_floatAll : mv_Yk yX10_floatAll cX10_floatAll 5 (some .int) 0 := ⟨wq_69, wq_4, by decide +kernel, by decide +kernel, by decide⟩
theorem yl_X11_floatAll : mv_Yk yX11_floatAll cX11_floatAll 4 (some .int) 0 := ⟨wq_73, wq_9, by decide +kernel, by decide +kernel, by decide⟩
theorem yl_X10_setRule : mv_Yk yX10_setRule cX10_setRule 6 (some .int) 2 := ⟨wq_77, wq_4, by decide +kernel, by decide +kernel, by decide⟩
theorem yl_X11_setRule : mv_Yk yX11_setRule cX11_setRule 5 (some .int) 2 := ⟨wq_81, wq_9, by decide +kernel, by decide +kernel, by decide⟩
theorem yl_X10_take : mv_Yk yX10_take cX10_take 2 (some .int) 1 := ⟨wq_85, wq_4, by decide +kernel, by decide +kernel, by decide⟩
theorem yl_X11_take : mv_Yk yX11_take cX11_take 4 (some .int) 1 := ⟨wq_89, wq_9, by decide +kernel, by decide +kernel, by decide⟩
theorem yl_X10_restore : mv_Yk yX10_restore cX10_restore 2 (some .int) 1 := ⟨wq_93, wq_4, by decide +kernel, by decide +kernel, by decide⟩
theorem yl_X11_restore : mv_Yk yX11_restore cX11_restore 4 (some .int) 1 := ⟨wq_97, wq_9, by decide +kernel, by decide +kernel, by decide⟩
theorem yl_X10_undo : mv_Yk yX10_undo cX10_undo 1 (some .int) 0 := ⟨wq_101, wq_4, by decide +kernel, by decide +kernel, by decide⟩
theorem yl_X11_undo : mv_Yk yX11_undo cX11_undo 2 (some .int) 0 := ⟨wq_105, wq_9, by decide +kernel, by decide +kernel, by decide⟩
theorem yl_X10_append : mv_Yk yX10_append cX10_append 2 (some .int) 1 := ⟨wq_109, wq_4, by decide +kernel, by decide +kernel, by decide⟩
theorem yl_X11_append : mv_Yk yX11_append cX11_append 2 (some .int) 1 := ⟨wq_113, wq_9, by decide +kernel, by decide +kernel, by decide⟩
theorem yl_X10_clearText : mv_Yk yX10_clearText cX10_clearText 2 (some .int) 0 := ⟨wq_117, wq_4, by decide +kernel, by decide +kernel, by decide⟩
theorem yl_X11_clearText : mv_Yk yX11_clearText cX11_clearText 2 (some .int) 0 := ⟨wq_121, wq_9, by decide +kernel, by decide +kernel, by decide⟩
theorem yl_X10_load : mv_Yk yX10_load cX10_load 1 (some .int) 0 := ⟨wq_125, wq_4, by decide +kernel, by decide +kernel, by decide⟩
theorem yl_X11_load : mv_Yk yX11_load cX11_load 3 (some .int) 0 := ⟨wq_129, wq_9, by decide +kernel, by decide +kernel, by decide⟩
theorem yl_X10_count : mv_Yk yX10_count cX10_count 3 (some .int) 1 := ⟨wq_133, wq_4, by decide +kernel, by decide +kernel, by decide⟩
theorem yl_X11_count : mv_Yk yX11_count cX11_count 2 (some .int) 1 := ⟨wq_137, wq_9, by decide +kernel, by decide +kernel, by decide⟩
theorem yl_X10_article : mv_Yk yX10_article cX10_article 5 (some .int) 2 := ⟨wq_141, wq_4, by decide +kernel, by decide +kernel, by decide⟩
theorem yl_X11_article : mv_Yk yX11_article cX11_article 4 (some .int) 2 := ⟨wq_145, wq_9, by decide +kernel, by decide +kernel, by decide⟩
theorem yl_X10_lineAt : mv_Yk yX10_lineAt cX10_lineAt 3 (some .int) 2 := ⟨wq_149, wq_4, by decide +kernel, by decide +kernel, by decide⟩
theorem yl_X11_lineAt : mv_Yk yX11_lineAt cX11_lineAt 3 (some .int) 2 := ⟨wq_153, wq_9, by decide +kernel, by decide +kernel, by decide⟩
theorem yl_X10_sentence : mv_Yk yX10_sentence cX10_sentence 5 (some .int) 3 := ⟨wq_157, wq_4, by decide +kernel, by decide +kernel, by decide⟩
theorem yl_X11_sentence : mv_Yk yX11_sentence cX11_sentence 5 (some .int) 3 := ⟨wq_161, wq_9, by decide +kernel, by decide +kernel, by decide⟩
theorem yl_X10_quote : mv_Yk yX10_quote cX10_quote 4 (some .int) 2 := ⟨wq_165, wq_4, by decide +kernel, by decide +kernel, by decide⟩
theorem yl_X11_quote : mv_Yk yX11_quote cX11_quote 3 (some .int) 2 := ⟨wq_169, wq_9, by decide +kernel, by decide +kernel, by decide⟩
theorem yl_X10_module : mv_Yk yX10_module cX10_module 2 (some .int) 1 := ⟨wq_173, wq_4, by decide +kernel, by decide +kernel, by decide⟩
theorem yl_X11_module : mv_Yk yX11_module cX11_module 2 (some .int) 1 := ⟨wq_177, wq_9, by decide +kernel, by decide +kernel, by decide⟩
theorem yl_X10_page : mv_Yk yX10_page cX10_page 6 (some .int) 2 := ⟨wq_181, wq_4, by decide +kernel, by decide +kernel, by decide⟩
theorem yl_X11_page : mv_Yk yX11_page cX11_page 4 (some .int) 2 := ⟨wq_185, wq_9, by decide +kernel, by decide +kernel, by decide⟩
theorem yl_X10_refusal : mv_Yk yX10_refusal cX10_refusal 5 (some .int) 4 := ⟨wq_189, wq_4, by decide +kernel, by decide +kernel, by decide⟩
theorem yl_X11_refusal : mv_Yk yX11_refusal cX11_refusal 5 (some .int) 4 := ⟨wq_193, wq_9, by decide +kernel, by decide +kernel, by decide⟩
theorem yl_X10_bestPlace : mv_Yk yX10_bestPlace cX10_bestPlace 3 (some .int) 2 := ⟨wq_197, wq_4, by decide +kernel, by decide +kernel, by decide⟩
theorem yl_X11_bestPlace : mv_Yk yX11_bestPlace cX11_bestPlace 4 (some .int) 2 := ⟨wq_201, wq_9, by decide +kernel, by decide +kernel, by decide⟩
theorem yl_X10_troubled : mv_Yk yX10_troubled cX10_troubled 5 (some .int) 0 := ⟨wq_205, wq_4, by decide +kernel, by decide +kernel, by decide⟩
theorem yl_X11_troubled : mv_Yk yX11_troubled cX11_troubled 3 (some .int) 0 := ⟨wq_209, wq_9, by decide +kernel, by decide +kernel, by decide⟩
theorem yl_X10_roomFor : mv_Yk yX10_roomFor cX10_roomFor 2 (some .int) 1 := ⟨wq_213, wq_4, by decide +kernel, by decide +kernel, by decide⟩
theorem yl_X11_roomFor : mv_Yk yX11_roomFor cX11_roomFor 5 (some .int) 1 := ⟨wq_217, wq_9, by decide +kernel, by decide +kernel, by decide⟩
theorem dL_law_0 : decode cL_law 0 = .ok (.new 7, 3) := by decide +kernel
theorem dL_law_3 : decode cL_law 3 = .ok (.dup, 1) := by decide +kernel
theorem dL_law_4 : decode cL_law 4 = .ok (.invokespecial 9, 3) := by decide +kernel
theorem dL_law_7 : decode cL_law 7 = .ok (.astore_n 1, 1) := by decide +kernel
theorem dL_law_8 : decode cL_law 8 = .ok (.new 10, 3) := by decide +kernel
theorem dL_law_11 : decode cL_law 11 = .ok (.dup, 1) := by decide +kernel
theorem dL_law_12 : decode cL_law 12 = .ok (.invokespecial 12, 3) := by decide +kernel
theorem dL_law_15 : decode cL_law 15 = .ok (.astore_n 2, 1) := by decide +kernel
theorem dL_law_16 : decode cL_law 16 = .ok (.iconst 0, 1) := by decide +kernel
theorem dL_law_17 : decode cL_law 17 = .ok (.istore_n 3, 1) := by decide +kernel
theorem dL_law_18 : decode cL_law 18 = .ok (.iload_n 3, 1) := by decide +kernel
theorem dL_law_19 : decode cL_law 19 = .ok (.aload_n 0, 1) := by decide +kernel
theorem dL_law_20 : decode cL_law 20 = .ok (.arraylength, 1) := by decide +kernel
theorem dL_law_21 : decode cL_law 21 = .ok (.iconst 5, 1) := by decide +kernel
theorem dL_law_22 : decode cL_law 22 = .ok (.isub, 1) := by decide +kernel
theorem dL_law_23 : decode cL_law 23 = .ok (.if_icmp .gt 920, 3) := by decide +kernel
theorem dL_law_26 : decode cL_law 26 = .ok (.aload_n 0, 1) := by decide +kernel
theorem dL_law_27 : decode cL_law 27 = .ok (.iload_n 3, 1) := by decide +kernel
theorem dL_law_28 : decode cL_law 28 = .ok (.iaload, 1) := by decide +kernel
theorem dL_law_29 : decode cL_law 29 = .ok (.bipush 31, 2) := by decide +kernel
theorem dL_law_31 : decode cL_law 31 = .ok (.iand, 1) := by decide +kernel
theorem dL_law_32 : decode cL_law 32 = .ok (.tableswitch 905 0 26 #[124, 157, 180, 223, 256, 309, 332, 385, 408, 421, 454, 477, 500, 513, 536, 549, 562, 585, 618, 651, 694, 727, 750, 783, 836, 869, 882], 124) := by decide +kernel
theorem dL_law_156 : decode cL_law 156 = .ok (.aload_n 1, 1) := by decide +kernel
theorem dL_law_157 : decode cL_law 157 = .ok (.aload_n 0, 1) := by decide +kernel
theorem dL_law_158 : decode cL_law 158 = .ok (.iload_n 3, 1) := by decide +kernel
theorem dL_law_159 : decode cL_law 159 = .ok (.iconst 1, 1) := by decide +kernel
theorem dL_law_160 : decode cL_law 160 = .ok (.iadd, 1) := by decide +kernel
theorem dL_law_161 : decode cL_law 161 = .ok (.iaload, 1) := by decide +kernel
theorem dL_law_162 : decode cL_law 162 = .ok (.aload_n 0, 1) := by decide +kernel
theorem dL_law_163 : decode cL_law 163 = .ok (.iload_n 3, 1) := by decide +kernel
theorem dL_law_164 : decode cL_law 164 = .ok (.iconst 2, 1) := by decide +kernel
theorem dL_law_165 : decode cL_law 165 = .ok (.iadd, 1) := by decide +kernel
theorem dL_law_166 : decode cL_law 166 = .ok (.iaload, 1) := by decide +kernel
theorem dL_law_167 : decode cL_law 167 = .ok (.invokevirtual 13, 3) := by decide +kernel
theorem dL_law_170 : decode cL_law 170 = .ok (.aload_n 2, 1) := by decide +kernel
theorem dL_law_171 : decode cL_law 171 = .ok (.aload_n 0, 1) := by decide +kernel
theorem dL_law_172 : decode cL_law 172 = .ok (.iload_n 3, 1) := by decide +kernel
theorem dL_law_173 : decode cL_law 173 = .ok (.iconst 1, 1) := by decide +kernel
theorem dL_law_174 : decode cL_law 174 = .ok (.iadd, 1) := by decide +kernel
theorem dL_law_175 : decode cL_law 175 = .ok (.iaload, 1) := by decide +kernel
theorem dL_law_176 : decode cL_law 176 = .ok (.aload_n 0, 1) := by decide +kernel
theorem dL_law_177 : decode cL_law 177 = .ok (.iload_n 3, 1) := by decide +kernel
theorem dL_law_178 : decode cL_law 178 = .ok (.iconst 2, 1) := by decide +kernel
theorem dL_law_179 : decode cL_law 179 = .ok (.iadd, 1) := by decide +kernel
theorem dL_law_180 : decode cL_law 180 = .ok (.iaload, 1) := by decide +kernel
theorem dL_law_181 : decode cL_law 181 = .ok (.invokevirtual 17, 3) := by decide +kernel
theorem dL_law_184 : decode cL_law 184 = .ok (.if_icmp .eq 753, 3) := by decide +kernel
theorem dL_law_187 : decode cL_law 187 = .ok (.iconst 0, 1) := by decide +kernel
theorem dL_law_188 : decode cL_law 188 = .ok (.ireturn, 1) := by decide +kernel
theorem dL_law_189 : decode cL_law 189 = .ok (.aload_n 1, 1) := by decide +kernel
theorem dL_law_190 : decode cL_law 190 = .ok (.aload_n 0, 1) := by decide +kernel
theorem dL_law_191 : decode cL_law 191 = .ok (.iload_n 3, 1) := by decide +kernel
theorem dL_law_192 : decode cL_law 192 = .ok (.iconst 1, 1) := by decide +kernel
theorem dL_law_193 : decode cL_law 193 = .ok (.iadd, 1) := by decide +kernel
theorem dL_law_194 : decode cL_law 194 = .ok (.iaload, 1) := by decide +kernel
theorem dL_law_195 : decode cL_law 195 = .ok (.invokevirtual 18, 3) := by decide +kernel
theorem dL_law_198 : decode cL_law 198 = .ok (.aload_n 2, 1) := by decide +kernel
theorem dL_law_199 : decode cL_law 199 = .ok (.aload_n 0, 1) := by decide +kernel
theorem dL_law_200 : decode cL_law 200 = .ok (.iload_n 3, 1) := by decide +kernel
theorem dL_law_201 : decode cL_law 201 = .ok (.iconst 1, 1) := by decide +kernel
theorem dL_law_202 : decode cL_law 202 = .ok (.iadd, 1) := by decide +kernel
theorem dL_law_203 : decode cL_law 203 = .ok (.iaload, 1) := by decide +kernel
theorem dL_law_204 : decode cL_law 204 = .ok (.invokevirtual 22, 3) := by decide +kernel
theorem dL_law_207 : decode cL_law 207 = .ok (.if_icmp .eq 730, 3) := by decide +kernel
theorem dL_law_210 : decode cL_law 210 = .ok (.iconst 0, 1) := by decide +kernel
theorem dL_law_211 : decode cL_law 211 = .ok (.ireturn, 1) := by decide +kernel
theorem dL_law_212 : decode cL_law 212 = .ok (.aload_n 1, 1) := by decide +kernel
theorem dL_law_213 : decode cL_law 213 = .ok (.aload_n 0, 1) := by decide +kernel
theorem dL_law_214 : decode cL_law 214 = .ok (.iload_n 3, 1) := by decide +kernel
theorem dL_law_215 : decode cL_law 215 = .ok (.iconst 1, 1) := by decide +kernel
theorem dL_law_216 : decode cL_law 216 = .ok (.iadd, 1) := by decide +kernel
theorem dL_law_217 : decode cL_law 217 = .ok (.iaload, 1) := by decide +kernel
theorem dL_law_218 : decode cL_law 218 = .ok (.aload_n 0, 1) := by decide +kernel
theorem dL_law_219 : decode cL_law 219 = .ok (.iload_n 3, 1) := by decide +kernel
theorem dL_law_220 : decode cL_law 220 = .ok (.iconst 2, 1) := by decide +kernel
theorem dL_law_221 : decode cL_law 221 = .ok (.iadd, 1) := by decide +kernel
theorem dL_law_222 : decode cL_law 222 = .ok (.iaload, 1) := by decide +kernel
theorem dL_law_223 : decode cL_law 223 = .ok (.aload_n 0, 1) := by decide +kernel
theorem dL_law_224 : decode cL_law 224 = .ok (.iload_n 3, 1) := by decide +kernel
theorem dL_law_225 : decode cL_law 225 = .ok (.iconst 3, 1) := by decide +kernel
theorem dL_law_226 : decode cL_law 226 = .ok (.iadd, 1) := by decide +kernel
theorem dL_law_227 : decode cL_law 227 = .ok (.iaload, 1) := by decide +kernel
theorem dL_law_228 : decode cL_law 228 = .ok (.invokevirtual 23, 3) := by decide +kernel
theorem dL_law_231 : decode cL_law 231 = .ok (.aload_n 2, 1) := by decide +kernel
theorem dL_law_232 : decode cL_law 232 = .ok (.aload_n 0, 1) := by decide +kernel
theorem dL_law_233 : decode cL_law 233 = .ok (.iload_n 3, 1) := by decide +kernel
theorem dL_law_234 : decode cL_law 234 = .ok (.iconst 1, 1) := by decide +kernel
theorem dL_law_235 : decode cL_law 235 = .ok (.iadd, 1) := by decide +kernel
theorem dL_law_236 : decode cL_law 236 = .ok (.iaload, 1) := by decide +kernel
theorem dL_law_237 : decode cL_law 237 = .ok (.aload_n 0, 1) := by decide +kernel
theorem dL_law_238 : decode cL_law 238 = .ok (.iload_n 3, 1) := by decide +kernel
theorem dL_law_239 : decode cL_law 239 = .ok (.iconst 2, 1) := by decide +kernel
theorem dL_law_240 : decode cL_law 240 = .ok (.iadd, 1) := by decide +kernel
theorem dL_law_241 : decode cL_law 241 = .ok (.iaload, 1) := by decide +kernel
theorem dL_law_242 : decode cL_law 242 = .ok (.aload_n 0, 1) := by decide +kernel
theorem dL_law_243 : decode cL_law 243 = .ok (.iload_n 3, 1) := by decide +kernel
theorem dL_law_244 : decode cL_law 244 = .ok (.iconst 3, 1) := by decide +kernel
theorem dL_law_245 : decode cL_law 245 = .ok (.iadd, 1) := by decide +kernel
theorem dL_law_246 : decode cL_law 246 = .ok (.iaload, 1) := by decide +kernel
theorem dL_law_247 : decode cL_law 247 = .ok (.invokevirtual 27, 3) := by decide +kernel
theorem dL_law_250 : decode cL_law 250 = .ok (.if_icmp .eq 687, 3) := by decide +kernel
theorem dL_law_253 : decode cL_law 253 = .ok (.iconst 0, 1) := by decide +kernel
theorem dL_law_254 : decode cL_law 254 = .ok (.ireturn, 1) := by decide +kernel
theorem dL_law_255 : decode cL_law 255 = .ok (.aload_n 1, 1) := by decide +kernel
theorem dL_law_256 : decode cL_law 256 = .ok (.aload_n 0, 1) := by decide +kernel
theorem dL_law_257 : decode cL_law 257 = .ok (.iload_n 3, 1) := by decide +kernel
theorem dL_law_258 : decode cL_law 258 = .ok (.iconst 1, 1) := by decide +kernel
theorem dL_law_259 : decode cL_law 259 = .ok (.iadd, 1) := by decide +kernel
theorem dL_law_260 : decode cL_law 260 = .ok (.iaload, 1) := by decide +kernel
theorem dL_law_261 : decode cL_law 261 = .ok (.aload_n 0, 1) := by decide +kernel
theorem dL_law_262 : decode cL_law 262 = .ok (.iload_n 3, 1) := by decide +kernel
theorem dL_law_263 : decode cL_law 263 = .ok (.iconst 2, 1) := by decide +kernel
theorem dL_law_264 : decode cL_law 264 = .ok (.iadd, 1) := by decide +kernel
theorem dL_law_265 : decode cL_law 265 = .ok (.iaload, 1) := by decide +kernel
theorem dL_law_266 : decode cL_law 266 = .ok (.invokevirtual 28, 3) := by decide +kernel
theorem dL_law_269 : decode cL_law 269 = .ok (.aload_n 2, 1) := by decide +kernel
theorem dL_law_270 : decode cL_law 270 = .ok (.aload_n 0, 1) := by decide +kernel
theorem dL_law_271 : decode cL_law 271 = .ok (.iload_n 3, 1) := by decide +kernel
theorem dL_law_272 : decode cL_law 272 = .ok (.iconst 1, 1) := by decide +kernel
theorem dL_law_273 : decode cL_law 273 = .ok (.iadd, 1) := by decide +kernel
theorem dL_law_274 : decode cL_law 274 = .ok (.iaload, 1) := by decide +kernel
theorem dL_law_275 : decode cL_law 275 = .ok (.aload_n 0, 1) := by decide +kernel
theorem dL_law_276 : decode cL_law 276 = .ok (.iload_n 3, 1) := by decide +kernel
theorem dL_law_277 : decode cL_law 277 = .ok (.iconst 2, 1) := by decide +kernel
theorem dL_law_278 : decode cL_law 278 = .ok (.iadd, 1) := by decide +kernel
theorem dL_law_279 : decode cL_law 279 = .ok (.iaload, 1) := by decide +kernel
theorem dL_law_280 : decode cL_law 280 = .ok (.invokevirtual 31, 3) := by decide +kernel
theorem dL_law_283 : decode cL_law 283 = .ok (.if_icmp .eq 654, 3) := by decide +kernel
theorem dL_law_286 : decode cL_law 286 = .ok (.iconst 0, 1) := by decide +kernel
theorem dL_law_287 : decode cL_law 287 = .ok (.ireturn, 1) := by decide +kernel
theorem dL_law_288 : decode cL_law 288 = .ok (.aload_n 1, 1) := by decide +kernel
theorem dL_law_289 : decode cL_law 289 = .ok (.aload_n 0, 1) := by decide +kernel
theorem dL_law_290 : decode cL_law 290 = .ok (.iload_n 3, 1) := by decide +kernel
theorem dL_law_291 : decode cL_law 291 = .ok (.iconst 1, 1) := by decide +kernel
theorem dL_law_292 : decode cL_law 292 = .ok (.iadd, 1) := by decide +kernel
theorem dL_law_293 : decode cL_law 293 = .ok (.iaload, 1) := by decide +kernel
theorem dL_law_294 : decode cL_law 294 = .ok (.aload_n 0, 1) := by decide +kernel
theorem dL_law_295 : decode cL_law 295 = .ok (.iload_n 3, 1) := by decide +kernel
theorem dL_law_296 : decode cL_law 296 = .ok (.iconst 2, 1) := by decide +kernel
theorem dL_law_297 : decode cL_law 297 = .ok (.iadd, 1) := by decide +kernel
theorem dL_law_298 : decode cL_law 298 = .ok (.iaload, 1) := by decide +kernel
theorem dL_law_299 : decode cL_law 299 = .ok (.aload_n 0, 1) := by decide +kernel
theorem dL_law_300 : decode cL_law 300 = .ok (.iload_n 3, 1) := by decide +kernel
theorem dL_law_301 : decode cL_law 301 = .ok (.iconst 3, 1) := by decide +kernel
theorem dL_law_302 : decode cL_law 302 = .ok (.iadd, 1) := by decide +kernel
theorem dL_law_303 : decode cL_law 303 = .ok (.iaload, 1) := by decide +kernel
theorem dL_law_304 : decode cL_law 304 = .ok (.aload_n 0, 1) := by decide +kernel
theorem dL_law_305 : decode cL_law 305 = .ok (.iload_n 3, 1) := by decide +kernel
theorem dL_law_306 : decode cL_law 306 = .ok (.iconst 4, 1) := by decide +kernel
theorem dL_law_307 : decode cL_law 307 = .ok (.iadd, 1) := by decide +kernel
theorem dL_law_308 : decode cL_law 308 = .ok (.iaload, 1) := by decide +kernel
theorem dL_law_309 : decode cL_law 309 = .ok (.invokevirtual 32, 3) := by decide +kernel
theorem dL_law_312 : decode cL_law 312 = .ok (.aload_n 2, 1) := by decide +kernel
theorem dL_law_313 : decode cL_law 313 = .ok (.aload_n 0, 1) := by decide +kernel
theorem dL_law_314 : decode cL_law 314 = .ok (.iload_n 3, 1) := by decide +kernel
theorem dL_law_315 : decode cL_law 315 = .ok (.iconst 1, 1) := by decide +kernel
theorem dL_law_316 : decode cL_law 316 = .ok (.iadd, 1) := by decide +kernel
theorem dL_law_317 : decode cL_law 317 = .ok (.iaload, 1) := by decide +kernel
theorem dL_law_318 : decode cL_law 318 = .ok (.aload_n 0, 1) := by decide +kernel
theorem dL_law_319 : decode cL_law 319 = .ok (.iload_n 3, 1) := by decide +kernel
theorem dL_law_320 : decode cL_law 320 = .ok (.iconst 2, 1) := by decide +kernel
theorem dL_law_321 : decode cL_law 321 = .ok (.iadd, 1) := by decide +kernel
theorem dL_law_322 : decode cL_law 322 = .ok (.iaload, 1) := by decide +kernel
theorem dL_law_323 : decode cL_law 323 = .ok (.aload_n 0, 1) := by decide +kernel
theorem dL_law_324 : decode cL_law 324 = .ok (.iload_n 3, 1) := by decide +kernel
theorem dL_law_325 : decode cL_law 325 = .ok (.iconst 3, 1) := by decide +kernel
theorem dL_law_326 : decode cL_law 326 = .ok (.iadd, 1) := by decide +kernel
theorem dL_law_327 : decode cL_law 327 = .ok (.iaload, 1) := by decide +kernel
theorem dL_law_328 : decode cL_law 328 = .ok (.aload_n 0, 1) := by decide +kernel
theorem dL_law_329 : decode cL_law 329 = .ok (.iload_n 3, 1) := by decide +kernel
theorem dL_law_330 : decode cL_law 330 = .ok (.iconst 4, 1) := by decide +kernel
theorem dL_law_331 : decode cL_law 331 = .ok (.iadd, 1) := by decide +kernel
theorem dL_law_332 : decode cL_law 332 = .ok (.iaload, 1) := by decide +kernel
theorem dL_law_333 : decode cL_law 333 = .ok (.invokevirtual 36, 3) := by decide +kernel
theorem dL_law_336 : decode cL_law 336 = .ok (.if_icmp .eq 601, 3) := by decide +kernel
theorem dL_law_339 : decode cL_law 339 = .ok (.iconst 0, 1) := by decide +kernel
theorem dL_law_340 : decode cL_law 340 = .ok (.ireturn, 1) := by decide +kernel
theorem dL_law_341 : decode cL_law 341 = .ok (.aload_n 1, 1) := by decide +kernel
theorem dL_law_342 : decode cL_law 342 = .ok (.aload_n 0, 1) := by decide +kernel
theorem dL_law_343 : decode cL_law 343 = .ok (.iload_n 3, 1) := by decide +kernel
theorem dL_law_344 : decode cL_law 344 = .ok (.iconst 1, 1) := by decide +kernel
theorem dL_law_345 : decode cL_law 345 = .ok (.iadd, 1) := by decide +kernel
theorem dL_law_346 : decode cL_law 346 = .ok (.iaload, 1) := by decide +kernel
theorem dL_law_347 : decode cL_law 347 = .ok (.invokevirtual 37, 3) := by decide +kernel
theorem dL_law_350 : decode cL_law 350 = .ok (.aload_n 2, 1) := by decide +kernel
theorem dL_law_351 : decode cL_law 351 = .ok (.aload_n 0, 1) := by decide +kernel
theorem dL_law_352 : decode cL_law 352 = .ok (.iload_n 3, 1) := by decide +kernel
theorem dL_law_353 : decode cL_law 353 = .ok (.iconst 1, 1) := by decide +kernel
theorem dL_law_354 : decode cL_law 354 = .ok (.iadd, 1) := by decide +kernel
theorem dL_law_355 : decode cL_law 355 = .ok (.iaload, 1) := by decide +kernel
theorem dL_law_356 : decode cL_law 356 = .ok (.invokevirtual 40, 3) := by decide +kernel
theorem dL_law_359 : decode cL_law 359 = .ok (.if_icmp .eq 578, 3) := by decide +kernel
theorem dL_law_362 : decode cL_law 362 = .ok (.iconst 0, 1) := by decide +kernel
theorem dL_law_363 : decode cL_law 363 = .ok (.ireturn, 1) := by decide +kernel
theorem dL_law_364 : decode cL_law 364 = .ok (.aload_n 1, 1) := by decide +kernel
theorem dL_law_365 : decode cL_law 365 = .ok (.aload_n 0, 1) := by decide +kernel
theorem dL_law_366 : decode cL_law 366 = .ok (.iload_n 3, 1) := by decide +kernel
theorem dL_law_367 : decode cL_law 367 = .ok (.iconst 1, 1) := by decide +kernel
theorem dL_law_368 : decode cL_law 368 = .ok (.iadd, 1) := by decide +kernel
theorem dL_law_369 : decode cL_law 369 = .ok (.iaload, 1) := by decide +kernel
theorem dL_law_370 : decode cL_law 370 = .ok (.aload_n 0, 1) := by decide +kernel
theorem dL_law_371 : decode cL_law 371 = .ok (.iload_n 3, 1) := by decide +kernel
theorem dL_law_372 : decode cL_law 372 = .ok (.iconst 2, 1) := by decide +kernel
theorem dL_law_373 : decode cL_law 373 = .ok (.iadd, 1) := by decide +kernel
theorem dL_law_374 : decode cL_law 374 = .ok (.iaload, 1) := by decide +kernel
theorem dL_law_375 : decode cL_law 375 = .ok (.aload_n 0, 1) := by decide +kernel
theorem dL_law_376 : decode cL_law 376 = .ok (.iload_n 3, 1) := by decide +kernel
theorem dL_law_377 : decode cL_law 377 = .ok (.iconst 3, 1) := by decide +kernel
theorem dL_law_378 : decode cL_law 378 = .ok (.iadd, 1) := by decide +kernel
theorem dL_law_379 : decode cL_law 379 = .ok (.iaload, 1) := by decide +kernel
theorem dL_law_380 : decode cL_law 380 = .ok (.aload_n 0, 1) := by decide +kernel
theorem dL_law_381 : decode cL_law 381 = .ok (.iload_n 3, 1) := by decide +kernel
theorem dL_law_382 : decode cL_law 382 = .ok (.iconst 4, 1) := by decide +kernel
theorem dL_law_383 : decode cL_law 383 = .ok (.iadd, 1) := by decide +kernel
theorem dL_law_384 : decode cL_law 384 = .ok (.iaload, 1) := by decide +kernel
theorem dL_law_385 : decode cL_law 385 = .ok (.invokevirtual 41, 3) := by decide +kernel
theorem dL_law_388 : decode cL_law 388 = .ok (.aload_n 2, 1) := by decide +kernel
theorem dL_law_389 : decode cL_law 389 = .ok (.aload_n 0, 1) := by decide +kernel
theorem dL_law_390 : decode cL_law 390 = .ok (.iload_n 3, 1) := by decide +kernel
theorem dL_law_391 : decode cL_law 391 = .ok (.iconst 1, 1) := by decide +kernel
theorem dL_law_392 : decode cL_law 392 = .ok (.iadd, 1) := by decide +kernel
theorem dL_law_393 : decode cL_law 393 = .ok (.iaload, 1) := by decide +kernel
theorem dL_law_394 : decode cL_law 394 = .ok (.aload_n 0, 1) := by decide +kernel
theorem dL_law_395 : decode cL_law 395 = .ok (.iload_n 3, 1) := by decide +kernel
theorem dL_law_396 : decode cL_law 396 = .ok (.iconst 2, 1) := by decide +kernel
theorem dL_law_397 : decode cL_law 397 = .ok (.iadd, 1) := by decide +kernel
theorem dL_law_398 : decode cL_law 398 = .ok (.iaload, 1) := by decide +kernel
theorem dL_law_399 : decode cL_law 399 = .ok (.aload_n 0, 1) := by decide +kernel
theorem dL_law_400 : decode cL_law 400 = .ok (.iload_n 3, 1) := by decide +kernel
theorem dL_law_401 : decode cL_law 401 = .ok (.iconst 3, 1) := by decide +kernel
theorem dL_law_402 : decode cL_law 402 = .ok (.iadd, 1) := by decide +kernel
theorem dL_law_403 : decode cL_law 403 = .ok (.iaload, 1) := by decide +kernel
theorem dL_law_404 : decode cL_law 404 = .ok (.aload_n 0, 1) := by decide +kernel
theorem dL_law_405 : decode cL_law 405 = .ok (.iload_n 3, 1) := by decide +kernel
theorem dL_law_406 : decode cL_law 406 = .ok (.iconst 4, 1) := by decide +kernel
theorem dL_law_407 : decode cL_law 407 = .ok (.iadd, 1) := by decide +kernel
theorem dL_law_408 : decode cL_law 408 = .ok (.iaload, 1) := by decide +kernel
theorem dL_law_409 : decode cL_law 409 = .ok (.invokevirtual 44, 3) := by decide +kernel
theorem dL_law_412 : decode cL_law 412 = .ok (.if_icmp .eq 525, 3) := by decide +kernel
theorem dL_law_415 : decode cL_law 415 = .ok (.iconst 0, 1) := by decide +kernel
theorem dL_law_416 : decode cL_law 416 = .ok (.ireturn, 1) := by decide +kernel
theorem dL_law_417 : decode cL_law 417 = .ok (.aload_n 1, 1) := by decide +kernel
theorem dL_law_418 : decode cL_law 418 = .ok (.aload_n 0, 1) := by decide +kernel
theorem dL_law_419 : decode cL_law 419 = .ok (.iload_n 3, 1) := by decide +kernel
theorem dL_law_420 : decode cL_law 420 = .ok (.iconst 1, 1) := by decide +kernel
theorem dL_law_421 : decode cL_law 421 = .ok (.iadd, 1) := by decide +kernel
theorem dL_law_422 : decode cL_law 422 = .ok (.iaload, 1) := by decide +kernel
theorem dL_law_423 : decode cL_law 423 = .ok (.invokevirtual 45, 3) := by decide +kernel
theorem dL_law_426 : decode cL_law 426 = .ok (.aload_n 2, 1) := by decide +kernel
theorem dL_law_427 : decode cL_law 427 = .ok (.aload_n 0, 1) := by decide +kernel
theorem dL_law_428 : decode cL_law 428 = .ok (.iload_n 3, 1) := by decide +kernel
theorem dL_law_429 : decode cL_law 429 = .ok (.iconst 1, 1) := by decide +kernel
theorem dL_law_430 : decode cL_law 430 = .ok (.iadd, 1) := by decide +kernel
theorem dL_law_431 : decode cL_law 431 = .ok (.iaload, 1) := by decide +kernel
theorem dL_law_432 : decode cL_law 432 = .ok (.invokevirtual 48, 3) := by decide +kernel
theorem dL_law_435 : decode cL_law 435 = .ok (.if_icmp .eq 502, 3) := by decide +kernel
theorem dL_law_438 : decode cL_law 438 = .ok (.iconst 0, 1) := by decide +kernel
theorem dL_law_439 : decode cL_law 439 = .ok (.ireturn, 1) := by decide +kernel
theorem dL_law_440 : decode cL_law 440 = .ok (.aload_n 1, 1) := by decide +kernel
theorem dL_law_441 : decode cL_law 441 = .ok (.invokevirtual 49, 3) := by decide +kernel
theorem dL_law_444 : decode cL_law 444 = .ok (.aload_n 2, 1) := by decide +kernel
theorem dL_law_445 : decode cL_law 445 = .ok (.invokevirtual 53, 3) := by decide +kernel
theorem dL_law_448 : decode cL_law 448 = .ok (.if_icmp .eq 489, 3) := by decide +kernel
theorem dL_law_451 : decode cL_law 451 = .ok (.iconst 0, 1) := by decide +kernel
theorem dL_law_452 : decode cL_law 452 = .ok (.ireturn, 1) := by decide +kernel
theorem dL_law_453 : decode cL_law 453 = .ok (.aload_n 1, 1) := by decide +kernel
theorem dL_law_454 : decode cL_law 454 = .ok (.aload_n 0, 1) := by decide +kernel
theorem dL_law_455 : decode cL_law 455 = .ok (.iload_n 3, 1) := by decide +kernel
theorem dL_law_456 : decode cL_law 456 = .ok (.iconst 1, 1) := by decide +kernel
theorem dL_law_457 : decode cL_law 457 = .ok (.iadd, 1) := by decide +kernel
theorem dL_law_458 : decode cL_law 458 = .ok (.iaload, 1) := by decide +kernel
theorem dL_law_459 : decode cL_law 459 = .ok (.aload_n 0, 1) := by decide +kernel
theorem dL_law_460 : decode cL_law 460 = .ok (.iload_n 3, 1) := by decide +kernel
theorem dL_law_461 : decode cL_law 461 = .ok (.iconst 2, 1) := by decide +kernel
theorem dL_law_462 : decode cL_law 462 = .ok (.iadd, 1) := by decide +kernel
theorem dL_law_463 : decode cL_law 463 = .ok (.iaload, 1) := by decide +kernel
theorem dL_law_464 : decode cL_law 464 = .ok (.invokevirtual 54, 3) := by decide +kernel
theorem dL_law_467 : decode cL_law 467 = .ok (.aload_n 2, 1) := by decide +kernel
theorem dL_law_468 : decode cL_law 468 = .ok (.aload_n 0, 1) := by decide +kernel
theorem dL_law_469 : decode cL_law 469 = .ok (.iload_n 3, 1) := by decide +kernel
theorem dL_law_470 : decode cL_law 470 = .ok (.iconst 1, 1) := by decide +kernel
theorem dL_law_471 : decode cL_law 471 = .ok (.iadd, 1) := by decide +kernel
theorem dL_law_472 : decode cL_law 472 = .ok (.iaload, 1) := by decide +kernel
theorem dL_law_473 : decode cL_law 473 = .ok (.aload_n 0, 1) := by decide +kernel
theorem dL_law_474 : decode cL_law 474 = .ok (.iload_n 3, 1) := by decide +kernel
theorem dL_law_475 : decode cL_law 475 = .ok (.iconst 2, 1) := by decide +kernel
theorem dL_law_476 : decode cL_law 476 = .ok (.iadd, 1) := by decide +kernel
theorem dL_law_477 : decode cL_law 477 = .ok (.iaload, 1) := by decide +kernel
theorem dL_law_478 : decode cL_law 478 = .ok (.invokevirtual 57, 3) := by decide +kernel
theorem dL_law_481 : decode cL_law 481 = .ok (.if_icmp .eq 456, 3) := by decide +kernel
theorem dL_law_484 : decode cL_law 484 = .ok (.iconst 0, 1) := by decide +kernel
theorem dL_law_485 : decode cL_law 485 = .ok (.ireturn, 1) := by decide +kernel
theorem dL_law_486 : decode cL_law 486 = .ok (.aload_n 1, 1) := by decide +kernel
theorem dL_law_487 : decode cL_law 487 = .ok (.aload_n 0, 1) := by decide +kernel
theorem dL_law_488 : decode cL_law 488 = .ok (.iload_n 3, 1) := by decide +kernel
theorem dL_law_489 : decode cL_law 489 = .ok (.iconst 1, 1) := by decide +kernel
theorem dL_law_490 : decode cL_law 490 = .ok (.iadd, 1) := by decide +kernel
theorem dL_law_491 : decode cL_law 491 = .ok (.iaload, 1) := by decide +kernel
theorem dL_law_492 : decode cL_law 492 = .ok (.invokevirtual 58, 3) := by decide +kernel
theorem dL_law_495 : decode cL_law 495 = .ok (.aload_n 2, 1) := by decide +kernel
theorem dL_law_496 : decode cL_law 496 = .ok (.aload_n 0, 1) := by decide +kernel
theorem dL_law_497 : decode cL_law 497 = .ok (.iload_n 3, 1) := by decide +kernel
theorem dL_law_498 : decode cL_law 498 = .ok (.iconst 1, 1) := by decide +kernel
theorem dL_law_499 : decode cL_law 499 = .ok (.iadd, 1) := by decide +kernel
theorem dL_law_500 : decode cL_law 500 = .ok (.iaload, 1) := by decide +kernel
theorem dL_law_501 : decode cL_law 501 = .ok (.invokevirtual 61, 3) := by decide +kernel
theorem dL_law_504 : decode cL_law 504 = .ok (.if_icmp .eq 433, 3) := by decide +kernel
theorem dL_law_507 : decode cL_law 507 = .ok (.iconst 0, 1) := by decide +kernel
theorem dL_law_508 : decode cL_law 508 = .ok (.ireturn, 1) := by decide +kernel
theorem dL_law_509 : decode cL_law 509 = .ok (.aload_n 1, 1) := by decide +kernel
theorem dL_law_510 : decode cL_law 510 = .ok (.aload_n 0, 1) := by decide +kernel
theorem dL_law_511 : decode cL_law 511 = .ok (.iload_n 3, 1) := by decide +kernel
theorem dL_law_512 : decode cL_law 512 = .ok (.iconst 1, 1) := by decide +kernel
theorem dL_law_513 : decode cL_law 513 = .ok (.iadd, 1) := by decide +kernel
theorem dL_law_514 : decode cL_law 514 = .ok (.iaload, 1) := by decide +kernel
theorem dL_law_515 : decode cL_law 515 = .ok (.invokevirtual 62, 3) := by decide +kernel
theorem dL_law_518 : decode cL_law 518 = .ok (.aload_n 2, 1) := by decide +kernel
theorem dL_law_519 : decode cL_law 519 = .ok (.aload_n 0, 1) := by decide +kernel
theorem dL_law_520 : decode cL_law 520 = .ok (.iload_n 3, 1) := by decide +kernel
theorem dL_law_521 : decode cL_law 521 = .ok (.iconst 1, 1) := by decide +kernel
theorem dL_law_522 : decode cL_law 522 = .ok (.iadd, 1) := by decide +kernel
theorem dL_law_523 : decode cL_law 523 = .ok (.iaload, 1) := by decide +kernel
theorem dL_law_524 : decode cL_law 524 = .ok (.invokevirtual 65, 3) := by decide +kernel
theorem dL_law_527 : decode cL_law 527 = .ok (.if_icmp .eq 410, 3) := by decide +kernel
theorem dL_law_530 : decode cL_law 530 = .ok (.iconst 0, 1) := by decide +kernel
theorem dL_law_531 : decode cL_law 531 = .ok (.ireturn, 1) := by decide +kernel
theorem dL_law_532 : decode cL_law 532 = .ok (.aload_n 1, 1) := by decide +kernel
theorem dL_law_533 : decode cL_law 533 = .ok (.invokevirtual 66, 3) := by decide +kernel
theorem dL_law_536 : decode cL_law 536 = .ok (.aload_n 2, 1) := by decide +kernel
theorem dL_law_537 : decode cL_law 537 = .ok (.invokevirtual 69, 3) := by decide +kernel
theorem dL_law_540 : decode cL_law 540 = .ok (.if_icmp .eq 397, 3) := by decide +kernel
theorem dL_law_543 : decode cL_law 543 = .ok (.iconst 0, 1) := by decide +kernel
theorem dL_law_544 : decode cL_law 544 = .ok (.ireturn, 1) := by decide +kernel
theorem dL_law_545 : decode cL_law 545 = .ok (.aload_n 1, 1) := by decide +kernel
theorem dL_law_546 : decode cL_law 546 = .ok (.aload_n 0, 1) := by decide +kernel
theorem dL_law_547 : decode cL_law 547 = .ok (.iload_n 3, 1) := by decide +kernel
theorem dL_law_548 : decode cL_law 548 = .ok (.iconst 1, 1) := by decide +kernel
theorem dL_law_549 : decode cL_law 549 = .ok (.iadd, 1) := by decide +kernel
theorem dL_law_550 : decode cL_law 550 = .ok (.iaload, 1) := by decide +kernel
theorem dL_law_551 : decode cL_law 551 = .ok (.invokevirtual 70, 3) := by decide +kernel
theorem dL_law_554 : decode cL_law 554 = .ok (.aload_n 2, 1) := by decide +kernel
theorem dL_law_555 : decode cL_law 555 = .ok (.aload_n 0, 1) := by decide +kernel
theorem dL_law_556 : decode cL_law 556 = .ok (.iload_n 3, 1) := by decide +kernel
theorem dL_law_557 : decode cL_law 557 = .ok (.iconst 1, 1) := by decide +kernel
theorem dL_law_558 : decode cL_law 558 = .ok (.iadd, 1) := by decide +kernel
theorem dL_law_559 : decode cL_law 559 = .ok (.iaload, 1) := by decide +kernel
theorem dL_law_560 : decode cL_law 560 = .ok (.invokevirtual 73, 3) := by decide +kernel
theorem dL_law_563 : decode cL_law 563 = .ok (.if_icmp .eq 374, 3) := by decide +kernel
theorem dL_law_566 : decode cL_law 566 = .ok (.iconst 0, 1) := by decide +kernel
theorem dL_law_567 : decode cL_law 567 = .ok (.ireturn, 1) := by decide +kernel
theorem dL_law_568 : decode cL_law 568 = .ok (.aload_n 1, 1) := by decide +kernel
theorem dL_law_569 : decode cL_law 569 = .ok (.invokevirtual 74, 3) := by decide +kernel
theorem dL_law_572 : decode cL_law 572 = .ok (.aload_n 2, 1) := by decide +kernel
theorem dL_law_573 : decode cL_law 573 = .ok (.invokevirtual 77, 3) := by decide +kernel
theorem dL_law_576 : decode cL_law 576 = .ok (.if_icmp .eq 361, 3) := by decide +kernel
theorem dL_law_579 : decode cL_law 579 = .ok (.iconst 0, 1) := by decide +kernel
theorem dL_law_580 : decode cL_law 580 = .ok (.ireturn, 1) := by decide +kernel
theorem dL_law_581 : decode cL_law 581 = .ok (.aload_n 1, 1) := by decide +kernel
theorem dL_law_582 : decode cL_law 582 = .ok (.invokevirtual 78, 3) := by decide +kernel
theorem dL_law_585 : decode cL_law 585 = .ok (.aload_n 2, 1) := by decide +kernel
theorem dL_law_586 : decode cL_law 586 = .ok (.invokevirtual 81, 3) := by decide +kernel
theorem dL_law_589 : decode cL_law 589 = .ok (.if_icmp .eq 348, 3) := by decide +kernel
theorem dL_law_592 : decode cL_law 592 = .ok (.iconst 0, 1) := by decide +kernel
theorem dL_law_593 : decode cL_law 593 = .ok (.ireturn, 1) := by decide +kernel
theorem dL_law_594 : decode cL_law 594 = .ok (.aload_n 1, 1) := by decide +kernel
theorem dL_law_595 : decode cL_law 595 = .ok (.aload_n 0, 1) := by decide +kernel
theorem dL_law_596 : decode cL_law 596 = .ok (.iload_n 3, 1) := by decide +kernel
theorem dL_law_597 : decode cL_law 597 = .ok (.iconst 1, 1) := by decide +kernel
theorem dL_law_598 : decode cL_law 598 = .ok (.iadd, 1) := by decide +kernel
theorem dL_law_599 : decode cL_law 599 = .ok (.iaload, 1) := by decide +kernel
theorem dL_law_600 : decode cL_law 600 = .ok (.invokevirtual 82, 3) := by decide +kernel
theorem dL_law_603 : decode cL_law 603 = .ok (.aload_n 2, 1) := by decide +kernel
theorem dL_law_604 : decode cL_law 604 = .ok (.aload_n 0, 1) := by decide +kernel
theorem dL_law_605 : decode cL_law 605 = .ok (.iload_n 3, 1) := by decide +kernel
theorem dL_law_606 : decode cL_law 606 = .ok (.iconst 1, 1) := by decide +kernel
theorem dL_law_607 : decode cL_law 607 = .ok (.iadd, 1) := by decide +kernel
theorem dL_law_608 : decode cL_law 608 = .ok (.iaload, 1) := by decide +kernel
theorem dL_law_609 : decode cL_law 609 = .ok (.invokevirtual 85, 3) := by decide +kernel
theorem dL_law_612 : decode cL_law 612 = .ok (.if_icmp .eq 325, 3) := by decide +kernel
theorem dL_law_615 : decode cL_law 615 = .ok (.iconst 0, 1) := by decide +kernel
theorem dL_law_616 : decode cL_law 616 = .ok (.ireturn, 1) := by decide +kernel
theorem dL_law_617 : decode cL_law 617 = .ok (.aload_n 1, 1) := by decide +kernel
theorem dL_law_618 : decode cL_law 618 = .ok (.aload_n 0, 1) := by decide +kernel
theorem dL_law_619 : decode cL_law 619 = .ok (.iload_n 3, 1) := by decide +kernel
theorem dL_law_620 : decode cL_law 620 = .ok (.iconst 1, 1) := by decide +kernel
theorem dL_law_621 : decode cL_law 621 = .ok (.iadd, 1) := by decide +kernel
theorem dL_law_622 : decode cL_law 622 = .ok (.iaload, 1) := by decide +kernel
theorem dL_law_623 : decode cL_law 623 = .ok (.aload_n 0, 1) := by decide +kernel
theorem dL_law_624 : decode cL_law 624 = .ok (.iload_n 3, 1) := by decide +kernel
theorem dL_law_625 : decode cL_law 625 = .ok (.iconst 2, 1) := by decide +kernel
theorem dL_law_626 : decode cL_law 626 = .ok (.iadd, 1) := by decide +kernel
theorem dL_law_627 : decode cL_law 627 = .ok (.iaload, 1) := by decide +kernel
theorem dL_law_628 : decode cL_law 628 = .ok (.invokevirtual 86, 3) := by decide +kernel
theorem dL_law_631 : decode cL_law 631 = .ok (.aload_n 2, 1) := by decide +kernel
theorem dL_law_632 : decode cL_law 632 = .ok (.aload_n 0, 1) := by decide +kernel
theorem dL_law_633 : decode cL_law 633 = .ok (.iload_n 3, 1) := by decide +kernel
theorem dL_law_634 : decode cL_law 634 = .ok (.iconst 1, 1) := by decide +kernel
theorem dL_law_635 : decode cL_law 635 = .ok (.iadd, 1) := by decide +kernel
theorem dL_law_636 : decode cL_law 636 = .ok (.iaload, 1) := by decide +kernel
theorem dL_law_637 : decode cL_law 637 = .ok (.aload_n 0, 1) := by decide +kernel
theorem dL_law_638 : decode cL_law 638 = .ok (.iload_n 3, 1) := by decide +kernel
theorem dL_law_639 : decode cL_law 639 = .ok (.iconst 2, 1) := by decide +kernel
theorem dL_law_640 : decode cL_law 640 = .ok (.iadd, 1) := by decide +kernel
theorem dL_law_641 : decode cL_law 641 = .ok (.iaload, 1) := by decide +kernel
theorem dL_law_642 : decode cL_law 642 = .ok (.invokevirtual 89, 3) := by decide +kernel
theorem dL_law_645 : decode cL_law 645 = .ok (.if_icmp .eq 292, 3) := by decide +kernel
theorem dL_law_648 : decode cL_law 648 = .ok (.iconst 0, 1) := by decide +kernel
theorem dL_law_649 : decode cL_law 649 = .ok (.ireturn, 1) := by decide +kernel
theorem dL_law_650 : decode cL_law 650 = .ok (.aload_n 1, 1) := by decide +kernel
theorem dL_law_651 : decode cL_law 651 = .ok (.aload_n 0, 1) := by decide +kernel
theorem dL_law_652 : decode cL_law 652 = .ok (.iload_n 3, 1) := by decide +kernel
theorem dL_law_653 : decode cL_law 653 = .ok (.iconst 1, 1) := by decide +kernel
theorem dL_law_654 : decode cL_law 654 = .ok (.iadd, 1) := by decide +kernel
theorem dL_law_655 : decode cL_law 655 = .ok (.iaload, 1) := by decide +kernel
theorem dL_law_656 : decode cL_law 656 = .ok (.aload_n 0, 1) := by decide +kernel
theorem dL_law_657 : decode cL_law 657 = .ok (.iload_n 3, 1) := by decide +kernel
theorem dL_law_658 : decode cL_law 658 = .ok (.iconst 2, 1) := by decide +kernel
theorem dL_law_659 : decode cL_law 659 = .ok (.iadd, 1) := by decide +kernel
theorem dL_law_660 : decode cL_law 660 = .ok (.iaload, 1) := by decide +kernel
theorem dL_law_661 : decode cL_law 661 = .ok (.invokevirtual 90, 3) := by decide +kernel
theorem dL_law_664 : decode cL_law 664 = .ok (.aload_n 2, 1) := by decide +kernel
theorem dL_law_665 : decode cL_law 665 = .ok (.aload_n 0, 1) := by decide +kernel
theorem dL_law_666 : decode cL_law 666 = .ok (.iload_n 3, 1) := by decide +kernel
theorem dL_law_667 : decode cL_law 667 = .ok (.iconst 1, 1) := by decide +kernel
theorem dL_law_668 : decode cL_law 668 = .ok (.iadd, 1) := by decide +kernel
theorem dL_law_669 : decode cL_law 669 = .ok (.iaload, 1) := by decide +kernel
theorem dL_law_670 : decode cL_law 670 = .ok (.aload_n 0, 1) := by decide +kernel
theorem dL_law_671 : decode cL_law 671 = .ok (.iload_n 3, 1) := by decide +kernel
theorem dL_law_672 : decode cL_law 672 = .ok (.iconst 2, 1) := by decide +kernel
theorem dL_law_673 : decode cL_law 673 = .ok (.iadd, 1) := by decide +kernel
theorem dL_law_674 : decode cL_law 674 = .ok (.iaload, 1) := by decide +kernel
theorem dL_law_675 : decode cL_law 675 = .ok (.invokevirtual 93, 3) := by decide +kernel
theorem dL_law_678 : decode cL_law 678 = .ok (.if_icmp .eq 259, 3) := by decide +kernel
theorem dL_law_681 : decode cL_law 681 = .ok (.iconst 0, 1) := by decide +kernel
theorem dL_law_682 : decode cL_law 682 = .ok (.ireturn, 1) := by decide +kernel
theorem dL_law_683 : decode cL_law 683 = .ok (.aload_n 1, 1) := by decide +kernel
theorem dL_law_684 : decode cL_law 684 = .ok (.aload_n 0, 1) := by decide +kernel
theorem dL_law_685 : decode cL_law 685 = .ok (.iload_n 3, 1) := by decide +kernel
theorem dL_law_686 : decode cL_law 686 = .ok (.iconst 1, 1) := by decide +kernel
theorem dL_law_687 : decode cL_law 687 = .ok (.iadd, 1) := by decide +kernel
theorem dL_law_688 : decode cL_law 688 = .ok (.iaload, 1) := by decide +kernel
theorem dL_law_689 : decode cL_law 689 = .ok (.aload_n 0, 1) := by decide +kernel
theorem dL_law_690 : decode cL_law 690 = .ok (.iload_n 3, 1) := by decide +kernel
theorem dL_law_691 : decode cL_law 691 = .ok (.iconst 2, 1) := by decide +kernel
theorem dL_law_692 : decode cL_law 692 = .ok (.iadd, 1) := by decide +kernel
theorem dL_law_693 : decode cL_law 693 = .ok (.iaload, 1) := by decide +kernel
theorem dL_law_694 : decode cL_law 694 = .ok (.aload_n 0, 1) := by decide +kernel
theorem dL_law_695 : decode cL_law 695 = .ok (.iload_n 3, 1) := by decide +kernel
theorem dL_law_696 : decode cL_law 696 = .ok (.iconst 3, 1) := by decide +kernel
theorem dL_law_697 : decode cL_law 697 = .ok (.iadd, 1) := by decide +kernel
theorem dL_law_698 : decode cL_law 698 = .ok (.iaload, 1) := by decide +kernel
theorem dL_law_699 : decode cL_law 699 = .ok (.invokevirtual 94, 3) := by decide +kernel
theorem dL_law_702 : decode cL_law 702 = .ok (.aload_n 2, 1) := by decide +kernel
theorem dL_law_703 : decode cL_law 703 = .ok (.aload_n 0, 1) := by decide +kernel
theorem dL_law_704 : decode cL_law 704 = .ok (.iload_n 3, 1) := by decide +kernel
theorem dL_law_705 : decode cL_law 705 = .ok (.iconst 1, 1) := by decide +kernel
theorem dL_law_706 : decode cL_law 706 = .ok (.iadd, 1) := by decide +kernel
theorem dL_law_707 : decode cL_law 707 = .ok (.iaload, 1) := by decide +kernel
theorem dL_law_708 : decode cL_law 708 = .ok (.aload_n 0, 1) := by decide +kernel
theorem dL_law_709 : decode cL_law 709 = .ok (.iload_n 3, 1) := by decide +kernel
theorem dL_law_710 : decode cL_law 710 = .ok (.iconst 2, 1) := by decide +kernel
theorem dL_law_711 : decode cL_law 711 = .ok (.iadd, 1) := by decide +kernel
theorem dL_law_712 : decode cL_law 712 = .ok (.iaload, 1) := by decide +kernel
theorem dL_law_713 : decode cL_law 713 = .ok (.aload_n 0, 1) := by decide +kernel
theorem dL_law_714 : decode cL_law 714 = .ok (.iload_n 3, 1) := by decide +kernel
theorem dL_law_715 : decode cL_law 715 = .ok (.iconst 3, 1) := by decide +kernel
theorem dL_law_716 : decode cL_law 716 = .ok (.iadd, 1) := by decide +kernel
theorem dL_law_717 : decode cL_law 717 = .ok (.iaload, 1) := by decide +kernel
theorem dL_law_718 : decode cL_law 718 = .ok (.invokevirtual 97, 3) := by decide +kernel
theorem dL_law_721 : decode cL_law 721 = .ok (.if_icmp .eq 216, 3) := by decide +kernel
theorem dL_law_724 : decode cL_law 724 = .ok (.iconst 0, 1) := by decide +kernel
theorem dL_law_725 : decode cL_law 725 = .ok (.ireturn, 1) := by decide +kernel
theorem dL_law_726 : decode cL_law 726 = .ok (.aload_n 1, 1) := by decide +kernel
theorem dL_law_727 : decode cL_law 727 = .ok (.aload_n 0, 1) := by decide +kernel
theorem dL_law_728 : decode cL_law 728 = .ok (.iload_n 3, 1) := by decide +kernel
theorem dL_law_729 : decode cL_law 729 = .ok (.iconst 1, 1) := by decide +kernel
theorem dL_law_730 : decode cL_law 730 = .ok (.iadd, 1) := by decide +kernel
theorem dL_law_731 : decode cL_law 731 = .ok (.iaload, 1) := by decide +kernel
theorem dL_law_732 : decode cL_law 732 = .ok (.aload_n 0, 1) := by decide +kernel
theorem dL_law_733 : decode cL_law 733 = .ok (.iload_n 3, 1) := by decide +kernel
theorem dL_law_734 : decode cL_law 734 = .ok (.iconst 2, 1) := by decide +kernel
theorem dL_law_735 : decode cL_law 735 = .ok (.iadd, 1) := by decide +kernel
theorem dL_law_736 : decode cL_law 736 = .ok (.iaload, 1) := by decide +kernel
theorem dL_law_737 : decode cL_law 737 = .ok (.invokevirtual 98, 3) := by decide +kernel
theorem dL_law_740 : decode cL_law 740 = .ok (.aload_n 2, 1) := by decide +kernel
theorem dL_law_741 : decode cL_law 741 = .ok (.aload_n 0, 1) := by decide +kernel
theorem dL_law_742 : decode cL_law 742 = .ok (.iload_n 3, 1) := by decide +kernel
theorem dL_law_743 : decode cL_law 743 = .ok (.iconst 1, 1) := by decide +kernel
theorem dL_law_744 : decode cL_law 744 = .ok (.iadd, 1) := by decide +kernel
theorem dL_law_745 : decode cL_law 745 = .ok (.iaload, 1) := by decide +kernel
theorem dL_law_746 : decode cL_law 746 = .ok (.aload_n 0, 1) := by decide +kernel
theorem dL_law_747 : decode cL_law 747 = .ok (.iload_n 3, 1) := by decide +kernel
theorem dL_law_748 : decode cL_law 748 = .ok (.iconst 2, 1) := by decide +kernel
theorem dL_law_749 : decode cL_law 749 = .ok (.iadd, 1) := by decide +kernel
theorem dL_law_750 : decode cL_law 750 = .ok (.iaload, 1) := by decide +kernel
theorem dL_law_751 : decode cL_law 751 = .ok (.invokevirtual 101, 3) := by decide +kernel
theorem dL_law_754 : decode cL_law 754 = .ok (.if_icmp .eq 183, 3) := by decide +kernel
theorem dL_law_757 : decode cL_law 757 = .ok (.iconst 0, 1) := by decide +kernel
theorem dL_law_758 : decode cL_law 758 = .ok (.ireturn, 1) := by decide +kernel
theorem dL_law_759 : decode cL_law 759 = .ok (.aload_n 1, 1) := by decide +kernel
theorem dL_law_760 : decode cL_law 760 = .ok (.aload_n 0, 1) := by decide +kernel
theorem dL_law_761 : decode cL_law 761 = .ok (.iload_n 3, 1) := by decide +kernel
theorem dL_law_762 : decode cL_law 762 = .ok (.iconst 1, 1) := by decide +kernel
theorem dL_law_763 : decode cL_law 763 = .ok (.iadd, 1) := by decide +kernel
theorem dL_law_764 : decode cL_law 764 = .ok (.iaload, 1) := by decide +kernel
theorem dL_law_765 : decode cL_law 765 = .ok (.invokevirtual 102, 3) := by decide +kernel
theorem dL_law_768 : decode cL_law 768 = .ok (.aload_n 2, 1) := by decide +kernel
theorem dL_law_769 : decode cL_law 769 = .ok (.aload_n 0, 1) := by decide +kernel
theorem dL_law_770 : decode cL_law 770 = .ok (.iload_n 3, 1) := by decide +kernel
theorem dL_law_771 : decode cL_law 771 = .ok (.iconst 1, 1) := by decide +kernel
theorem dL_law_772 : decode cL_law 772 = .ok (.iadd, 1) := by decide +kernel
theorem dL_law_773 : decode cL_law 773 = .ok (.iaload, 1) := by decide +kernel
theorem dL_law_774 : decode cL_law 774 = .ok (.invokevirtual 105, 3) := by decide +kernel
theorem dL_law_777 : decode cL_law 777 = .ok (.if_icmp .eq 160, 3) := by decide +kernel
theorem dL_law_780 : decode cL_law 780 = .ok (.iconst 0, 1) := by decide +kernel
theorem dL_law_781 : decode cL_law 781 = .ok (.ireturn, 1) := by decide +kernel
theorem dL_law_782 : decode cL_law 782 = .ok (.aload_n 1, 1) := by decide +kernel
theorem dL_law_783 : decode cL_law 783 = .ok (.aload_n 0, 1) := by decide +kernel
theorem dL_law_784 : decode cL_law 784 = .ok (.iload_n 3, 1) := by decide +kernel
theorem dL_law_785 : decode cL_law 785 = .ok (.iconst 1, 1) := by decide +kernel
theorem dL_law_786 : decode cL_law 786 = .ok (.iadd, 1) := by decide +kernel
theorem dL_law_787 : decode cL_law 787 = .ok (.iaload, 1) := by decide +kernel
theorem dL_law_788 : decode cL_law 788 = .ok (.aload_n 0, 1) := by decide +kernel
theorem dL_law_789 : decode cL_law 789 = .ok (.iload_n 3, 1) := by decide +kernel
theorem dL_law_790 : decode cL_law 790 = .ok (.iconst 2, 1) := by decide +kernel
theorem dL_law_791 : decode cL_law 791 = .ok (.iadd, 1) := by decide +kernel
theorem dL_law_792 : decode cL_law 792 = .ok (.iaload, 1) := by decide +kernel
theorem dL_law_793 : decode cL_law 793 = .ok (.invokevirtual 106, 3) := by decide +kernel
theorem dL_law_796 : decode cL_law 796 = .ok (.aload_n 2, 1) := by decide +kernel
theorem dL_law_797 : decode cL_law 797 = .ok (.aload_n 0, 1) := by decide +kernel
theorem dL_law_798 : decode cL_law 798 = .ok (.iload_n 3, 1) := by decide +kernel
theorem dL_law_799 : decode cL_law 799 = .ok (.iconst 1, 1) := by decide +kernel
theorem dL_law_800 : decode cL_law 800 = .ok (.iadd, 1) := by decide +kernel
theorem dL_law_801 : decode cL_law 801 = .ok (.iaload, 1) := by decide +kernel
theorem dL_law_802 : decode cL_law 802 = .ok (.aload_n 0, 1) := by decide +kernel
theorem dL_law_803 : decode cL_law 803 = .ok (.iload_n 3, 1) := by decide +kernel
theorem dL_law_804 : decode cL_law 804 = .ok (.iconst 2, 1) := by decide +kernel
theorem dL_law_805 : decode cL_law 805 = .ok (.iadd, 1) := by decide +kernel
theorem dL_law_806 : decode cL_law 806 = .ok (.iaload, 1) := by decide +kernel
theorem dL_law_807 : decode cL_law 807 = .ok (.invokevirtual 109, 3) := by decide +kernel
theorem dL_law_810 : decode cL_law 810 = .ok (.if_icmp .eq 127, 3) := by decide +kernel
theorem dL_law_813 : decode cL_law 813 = .ok (.iconst 0, 1) := by decide +kernel
theorem dL_law_814 : decode cL_law 814 = .ok (.ireturn, 1) := by decide +kernel
theorem dL_law_815 : decode cL_law 815 = .ok (.aload_n 1, 1) := by decide +kernel
theorem dL_law_816 : decode cL_law 816 = .ok (.aload_n 0, 1) := by decide +kernel
theorem dL_law_817 : decode cL_law 817 = .ok (.iload_n 3, 1) := by decide +kernel
theorem dL_law_818 : decode cL_law 818 = .ok (.iconst 1, 1) := by decide +kernel
theorem dL_law_819 : decode cL_law 819 = .ok (.iadd, 1) := by decide +kernel
theorem dL_law_820 : decode cL_law 820 = .ok (.iaload, 1) := by decide +kernel
theorem dL_law_821 : decode cL_law 821 = .ok (.aload_n 0, 1) := by decide +kernel
theorem dL_law_822 : decode cL_law 822 = .ok (.iload_n 3, 1) := by decide +kernel
theorem dL_law_823 : decode cL_law 823 = .ok (.iconst 2, 1) := by decide +kernel
theorem dL_law_824 : decode cL_law 824 = .ok (.iadd, 1) := by decide +kernel
theorem dL_law_825 : decode cL_law 825 = .ok (.iaload, 1) := by decide +kernel
theorem dL_law_826 : decode cL_law 826 = .ok (.aload_n 0, 1) := by decide +kernel
theorem dL_law_827 : decode cL_law 827 = .ok (.iload_n 3, 1) := by decide +kernel
theorem dL_law_828 : decode cL_law 828 = .ok (.iconst 3, 1) := by decide +kernel
theorem dL_law_829 : decode cL_law 829 = .ok (.iadd, 1) := by decide +kernel
theorem dL_law_830 : decode cL_law 830 = .ok (.iaload, 1) := by decide +kernel
theorem dL_law_831 : decode cL_law 831 = .ok (.aload_n 0, 1) := by decide +kernel
theorem dL_law_832 : decode cL_law 832 = .ok (.iload_n 3, 1) := by decide +kernel
theorem dL_law_833 : decode cL_law 833 = .ok (.iconst 4, 1) := by decide +kernel
theorem dL_law_834 : decode cL_law 834 = .ok (.iadd, 1) := by decide +kernel
theorem dL_law_835 : decode cL_law 835 = .ok (.iaload, 1) := by decide +kernel
theorem dL_law_836 : decode cL_law 836 = .ok (.invokevirtual 110, 3) := by decide +kernel
theorem dL_law_839 : decode cL_law 839 = .ok (.aload_n 2, 1) := by decide +kernel
theorem dL_law_840 : decode cL_law 840 = .ok (.aload_n 0, 1) := by decide +kernel
theorem dL_law_841 : decode cL_law 841 = .ok (.iload_n 3, 1) := by decide +kernel
theorem dL_law_842 : decode cL_law 842 = .ok (.iconst 1, 1) := by decide +kernel
theorem dL_law_843 : decode cL_law 843 = .ok (.iadd, 1) := by decide +kernel
theorem dL_law_844 : decode cL_law 844 = .ok (.iaload, 1) := by decide +kernel
theorem dL_law_845 : decode cL_law 845 = .ok (.aload_n 0, 1) := by decide +kernel
theorem dL_law_846 : decode cL_law 846 = .ok (.iload_n 3, 1) := by decide +kernel
theorem dL_law_847 : decode cL_law 847 = .ok (.iconst 2, 1) := by decide +kernel
theorem dL_law_848 : decode cL_law 848 = .ok (.iadd, 1) := by decide +kernel
theorem dL_law_849 : decode cL_law 849 = .ok (.iaload, 1) := by decide +kernel
theorem dL_law_850 : decode cL_law 850 = .ok (.aload_n 0, 1) := by decide +kernel
theorem dL_law_851 : decode cL_law 851 = .ok (.iload_n 3, 1) := by decide +kernel
theorem dL_law_852 : decode cL_law 852 = .ok (.iconst 3, 1) := by decide +kernel
theorem dL_law_853 : decode cL_law 853 = .ok (.iadd, 1) := by decide +kernel
theorem dL_law_854 : decode cL_law 854 = .ok (.iaload, 1) := by decide +kernel
theorem dL_law_855 : decode cL_law 855 = .ok (.aload_n 0, 1) := by decide +kernel
theorem dL_law_856 : decode cL_law 856 = .ok (.iload_n 3, 1) := by decide +kernel
theorem dL_law_857 : decode cL_law 857 = .ok (.iconst 4, 1) := by decide +kernel
theorem dL_law_858 : decode cL_law 858 = .ok (.iadd, 1) := by decide +kernel
theorem dL_law_859 : decode cL_law 859 = .ok (.iaload, 1) := by decide +kernel
theorem dL_law_860 : decode cL_law 860 = .ok (.invokevirtual 113, 3) := by decide +kernel
theorem dL_law_863 : decode cL_law 863 = .ok (.if_icmp .eq 74, 3) := by decide +kernel
theorem dL_law_866 : decode cL_law 866 = .ok (.iconst 0, 1) := by decide +kernel
theorem dL_law_867 : decode cL_law 867 = .ok (.ireturn, 1) := by decide +kernel
theorem dL_law_868 : decode cL_law 868 = .ok (.aload_n 1, 1) := by decide +kernel
theorem dL_law_869 : decode cL_law 869 = .ok (.aload_n 0, 1) := by decide +kernel
theorem dL_law_870 : decode cL_law 870 = .ok (.iload_n 3, 1) := by decide +kernel
theorem dL_law_871 : decode cL_law 871 = .ok (.iconst 1, 1) := by decide +kernel
theorem dL_law_872 : decode cL_law 872 = .ok (.iadd, 1) := by decide +kernel
theorem dL_law_873 : decode cL_law 873 = .ok (.iaload, 1) := by decide +kernel
theorem dL_law_874 : decode cL_law 874 = .ok (.aload_n 0, 1) := by decide +kernel
theorem dL_law_875 : decode cL_law 875 = .ok (.iload_n 3, 1) := by decide +kernel
theorem dL_law_876 : decode cL_law 876 = .ok (.iconst 2, 1) := by decide +kernel
theorem dL_law_877 : decode cL_law 877 = .ok (.iadd, 1) := by decide +kernel
theorem dL_law_878 : decode cL_law 878 = .ok (.iaload, 1) := by decide +kernel
theorem dL_law_879 : decode cL_law 879 = .ok (.invokevirtual 114, 3) := by decide +kernel
theorem dL_law_882 : decode cL_law 882 = .ok (.aload_n 2, 1) := by decide +kernel
theorem dL_law_883 : decode cL_law 883 = .ok (.aload_n 0, 1) := by decide +kernel
theorem dL_law_884 : decode cL_law 884 = .ok (.iload_n 3, 1) := by decide +kernel
theorem dL_law_885 : decode cL_law 885 = .ok (.iconst 1, 1) := by decide +kernel
theorem dL_law_886 : decode cL_law 886 = .ok (.iadd, 1) := by decide +kernel
theorem dL_law_887 : decode cL_law 887 = .ok (.iaload, 1) := by decide +kernel
theorem dL_law_888 : decode cL_law 888 = .ok (.aload_n 0, 1) := by decide +kernel
theorem dL_law_889 : decode cL_law 889 = .ok (.iload_n 3, 1) := by decide +kernel
theorem dL_law_890 : decode cL_law 890 = .ok (.iconst 2, 1) := by decide +kernel
theorem dL_law_891 : decode cL_law 891 = .ok (.iadd, 1) := by decide +kernel
theorem dL_law_892 : decode cL_law 892 = .ok (.iaload, 1) := by decide +kernel
theorem dL_law_893 : decode cL_law 893 = .ok (.invokevirtual 117, 3) := by decide +kernel
theorem dL_law_896 : decode cL_law 896 = .ok (.if_icmp .eq 41, 3) := by decide +kernel
theorem dL_law_899 : decode cL_law 899 = .ok (.iconst 0, 1) := by decide +kernel
theorem dL_law_900 : decode cL_law 900 = .ok (.ireturn, 1) := by decide +kernel
theorem dL_law_901 : decode cL_law 901 = .ok (.aload_n 1, 1) := by decide +kernel
theorem dL_law_902 : decode cL_law 902 = .ok (.invokevirtual 118, 3) := by decide +kernel
theorem dL_law_905 : decode cL_law 905 = .ok (.aload_n 2, 1) := by decide +kernel
theorem dL_law_906 : decode cL_law 906 = .ok (.invokevirtual 121, 3) := by decide +kernel
theorem dL_law_909 : decode cL_law 909 = .ok (.if_icmp .eq 28, 3) := by decide +kernel
theorem dL_law_912 : decode cL_law 912 = .ok (.iconst 0, 1) := by decide +kernel
theorem dL_law_913 : decode cL_law 913 = .ok (.ireturn, 1) := by decide +kernel
theorem dL_law_914 : decode cL_law 914 = .ok (.aload_n 1, 1) := by decide +kernel
theorem dL_law_915 : decode cL_law 915 = .ok (.aload_n 0, 1) := by decide +kernel
theorem dL_law_916 : decode cL_law 916 = .ok (.iload_n 3, 1) := by decide +kernel
theorem dL_law_917 : decode cL_law 917 = .ok (.iconst 1, 1) := by decide +kernel
theorem dL_law_918 : decode cL_law 918 = .ok (.iadd, 1) := by decide +kernel
theorem dL_law_919 : decode cL_law 919 = .ok (.iaload, 1) := by decide +kernel
theorem dL_law_920 : decode cL_law 920 = .ok (.invokevirtual 122, 3) := by decide +kernel
theorem dL_law_923 : decode cL_law 923 = .ok (.aload_n 2, 1) := by decide +kernel
theorem dL_law_924 : decode cL_law 924 = .ok (.aload_n 0, 1) := by decide +kernel
theorem dL_law_925 : decode cL_law 925 = .ok (.iload_n 3, 1) := by decide +kernel
theorem dL_law_926 : decode cL_law 926 = .ok (.iconst 1, 1) := by decide +kernel
theorem dL_law_927 : decode cL_law 927 = .ok (.iadd, 1) := by decide +kernel
theorem dL_law_928 : decode cL_law 928 = .ok (.iaload, 1) := by decide +kernel
theorem dL_law_929 : decode cL_law 929 = .ok (.invokevirtual 125, 3) := by decide +kernel
theorem dL_law_932 : decode cL_law 932 = .ok (.if_icmp .eq 5, 3) := by decide +kernel
theorem dL_law_935 : decode cL_law 935 = .ok (.iconst 0, 1) := by decide +kernel
theorem dL_law_936 : decode cL_law 936 = .ok (.ireturn, 1) := by decide +kernel
theorem dL_law_937 : decode cL_law 937 = .ok (.iinc 3 5, 3) := by decide +kernel
theorem dL_law_940 : decode cL_law 940 = .ok (.goto (-922), 3) := by decide +kernel
theorem dL_law_943 : decode cL_law 943 = .ok (.iconst 1, 1) := by decide +kernel
theorem dL_law_944 : decode cL_law 944 = .ok (.ireturn, 1) := by decide +kernel
