/-! The constructors: their words, decode rows (as NAMES.whole.lean.txt prints them), operators. -/
theorem wg_0 : Cond.methodLink RX0 3 objectInit ∈ mv_tb := mv_w 59 (by decide +kernel) (by decide +kernel)
theorem wg_1 : Cond.instanceMethod objectInit ∈ mv_tb := mv_w 37 (by decide +kernel) (by decide +kernel)
theorem wg_2 : Cond.code objectInit ⟨#[0xb1]⟩ 1 none ∈ mv_tb := mv_w 38 (by decide +kernel) (by decide +kernel)
theorem wg_3 : Cond.arrayClass .int ∈ mv_tb := mv_w 87 (by decide +kernel) (by decide +kernel)
theorem wg_4 : Cond.fieldLink RX0 9 "QuoteGrid$Article" "lines" "[I" ∈ mv_tb := mv_w 60 (by decide +kernel) (by decide +kernel)
theorem wg_5 : Cond.methodLink RX5 3 objectInit ∈ mv_tb := mv_w 92 (by decide +kernel) (by decide +kernel)
theorem wg_6 : Cond.methodLink RX2 3 objectInit ∈ mv_tb := mv_w 275 (by decide +kernel) (by decide +kernel)
theorem wg_7 : Cond.fieldLink RX2 9 "QuoteGrid$Flow" "modules" "[I" ∈ mv_tb := mv_w 276 (by decide +kernel) (by decide +kernel)
theorem wg_8 : Cond.fieldLink RX2 15 "QuoteGrid$Flow" "linesOnPage" "[I" ∈ mv_tb := mv_w 277 (by decide +kernel) (by decide +kernel)
theorem wg_9 : Cond.methodLink RX8 3 objectInit ∈ mv_tb := mv_w 223 (by decide +kernel) (by decide +kernel)
theorem wg_10 : Cond.fieldLink RX8 9 "QuoteGrid$Text" "signs" "[I" ∈ mv_tb := mv_w 224 (by decide +kernel) (by decide +kernel)
theorem wg_11 : Cond.methodLink RX1 3 objectInit ∈ mv_tb := mv_w 50 (by decide +kernel) (by decide +kernel)
theorem wg_12 : Cond.classLink RX1 9 RX0 ∈ mv_tb := mv_w 51 (by decide +kernel) (by decide +kernel)
theorem wg_13 : Cond.fieldLink RX1 11 "QuoteGrid$Content" "articles" "[LQuoteGrid$Article;" ∈ mv_tb := mv_w 147 (by decide +kernel) (by decide +kernel)
theorem wg_14 : Cond.classLink RX1 17 RX5 ∈ mv_tb := mv_w 53 (by decide +kernel) (by decide +kernel)
theorem wg_15 : Cond.fieldLink RX1 19 "QuoteGrid$Content" "quotes" "[LQuoteGrid$Quote;" ∈ mv_tb := mv_w 152 (by decide +kernel) (by decide +kernel)
theorem wg_16 : Cond.fieldLink RX1 23 "QuoteGrid$Content" "rules" "[I" ∈ mv_tb := mv_w 156 (by decide +kernel) (by decide +kernel)
theorem wg_17 : Cond.instantiable RX0 4 ∈ mv_tb := mv_w 55 (by decide +kernel) (by decide +kernel)
theorem wg_18 : Cond.initialized RX0 ∈ mv_tb := mv_w 20 (by decide +kernel) (by decide +kernel)
theorem wg_19 : Cond.instanceMethod yX0_init ∈ mv_tb := mv_w 57 (by decide +kernel) (by decide +kernel)
theorem wg_20 : Cond.instantiable RX5 8 ∈ mv_tb := mv_w 88 (by decide +kernel) (by decide +kernel)
theorem wg_21 : Cond.initialized RX5 ∈ mv_tb := mv_w 21 (by decide +kernel) (by decide +kernel)
theorem wg_22 : Cond.instanceMethod yX5_init ∈ mv_tb := mv_w 90 (by decide +kernel) (by decide +kernel)
theorem wg_23 : Cond.methodLink RX4 3 objectInit ∈ mv_tb := mv_w 268 (by decide +kernel) (by decide +kernel)
theorem wg_24 : Cond.fieldLink RX4 9 "QuoteGrid$Layout" "takers" "[I" ∈ mv_tb := mv_w 297 (by decide +kernel) (by decide +kernel)
theorem wg_25 : Cond.classLink RX4 15 RX2 ∈ mv_tb := mv_w 269 (by decide +kernel) (by decide +kernel)
theorem wg_26 : Cond.fieldLink RX4 17 "QuoteGrid$Layout" "flows" "[LQuoteGrid$Flow;" ∈ mv_tb := mv_w 299 (by decide +kernel) (by decide +kernel)
theorem wg_27 : Cond.instantiable RX2 5 ∈ mv_tb := mv_w 271 (by decide +kernel) (by decide +kernel)
theorem wg_28 : Cond.initialized RX2 ∈ mv_tb := mv_w 27 (by decide +kernel) (by decide +kernel)
theorem wg_29 : Cond.instanceMethod yX2_init ∈ mv_tb := mv_w 273 (by decide +kernel) (by decide +kernel)
theorem wg_30 : Cond.methodLink RX7 3 objectInit ∈ mv_tb := mv_w 44 (by decide +kernel) (by decide +kernel)
theorem wg_31 : Cond.classLink RX7 9 RX1 ∈ mv_tb := mv_w 45 (by decide +kernel) (by decide +kernel)
theorem wg_32 : Cond.instantiable RX1 5 ∈ mv_tb := mv_w 46 (by decide +kernel) (by decide +kernel)
theorem wg_33 : Cond.initialized RX1 ∈ mv_tb := mv_w 19 (by decide +kernel) (by decide +kernel)
theorem wg_34 : Cond.instanceMethod yX1_init ∈ mv_tb := mv_w 48 (by decide +kernel) (by decide +kernel)
theorem wg_35 : Cond.methodLink RX7 11 yX1_init ∈ mv_tb := mv_w 47 (by decide +kernel) (by decide +kernel)
theorem wg_36 : Cond.fieldLink RX7 12 "QuoteGrid$State" "content" "LQuoteGrid$Content;" ∈ mv_tb := mv_w 181 (by decide +kernel) (by decide +kernel)
theorem wg_37 : Cond.fieldLink RX7 18 "QuoteGrid$State" "snapshots" "[LQuoteGrid$Content;" ∈ mv_tb := mv_w 183 (by decide +kernel) (by decide +kernel)
theorem wg_38 : Cond.arrayClass .boolean ∈ mv_tb := mv_w 194 (by decide +kernel) (by decide +kernel)
theorem wg_39 : Cond.fieldLink RX7 22 "QuoteGrid$State" "snapshotTaken" "[Z" ∈ mv_tb := mv_w 185 (by decide +kernel) (by decide +kernel)
theorem wg_40 : Cond.methodLink RX3 3 objectInit ∈ mv_tb := mv_w 200 (by decide +kernel) (by decide +kernel)
theorem wg_41 : Cond.classLink RX3 9 RX7 ∈ mv_tb := mv_w 201 (by decide +kernel) (by decide +kernel)
theorem wg_42 : Cond.fieldLink RX3 11 "QuoteGrid$History" "states" "[LQuoteGrid$State;" ∈ mv_tb := mv_w 204 (by decide +kernel) (by decide +kernel)
theorem wg_43 : Cond.instantiable RX7 3 ∈ mv_tb := mv_w 40 (by decide +kernel) (by decide +kernel)
theorem wg_44 : Cond.initialized RX7 ∈ mv_tb := mv_w 18 (by decide +kernel) (by decide +kernel)
theorem wg_45 : Cond.instanceMethod yX7_init ∈ mv_tb := mv_w 42 (by decide +kernel) (by decide +kernel)
theorem wg_46 : Cond.methodLink RX3 17 yX7_init ∈ mv_tb := mv_w 203 (by decide +kernel) (by decide +kernel)
theorem wg_47 : Cond.methodLink RX9 3 objectInit ∈ mv_tb := mv_w 260 (by decide +kernel) (by decide +kernel)
theorem wg_48 : Cond.classLink RX9 9 RX1 ∈ mv_tb := mv_w 261 (by decide +kernel) (by decide +kernel)
theorem wg_49 : Cond.methodLink RX9 11 yX1_init ∈ mv_tb := mv_w 262 (by decide +kernel) (by decide +kernel)
theorem wg_50 : Cond.fieldLink RX9 12 "QuoteGrid$Trial" "plan" "LQuoteGrid$Content;" ∈ mv_tb := mv_w 310 (by decide +kernel) (by decide +kernel)
theorem wg_51 : Cond.classLink RX9 18 RX4 ∈ mv_tb := mv_w 263 (by decide +kernel) (by decide +kernel)
theorem wg_52 : Cond.instantiable RX4 3 ∈ mv_tb := mv_w 264 (by decide +kernel) (by decide +kernel)
theorem wg_53 : Cond.initialized RX4 ∈ mv_tb := mv_w 26 (by decide +kernel) (by decide +kernel)
theorem wg_54 : Cond.instanceMethod yX4_init ∈ mv_tb := mv_w 266 (by decide +kernel) (by decide +kernel)
theorem wg_55 : Cond.methodLink RX9 20 yX4_init ∈ mv_tb := mv_w 265 (by decide +kernel) (by decide +kernel)
theorem wg_56 : Cond.fieldLink RX9 21 "QuoteGrid$Trial" "before" "LQuoteGrid$Layout;" ∈ mv_tb := mv_w 311 (by decide +kernel) (by decide +kernel)
theorem wg_57 : Cond.fieldLink RX9 25 "QuoteGrid$Trial" "after" "LQuoteGrid$Layout;" ∈ mv_tb := mv_w 312 (by decide +kernel) (by decide +kernel)
theorem wg_58 : Cond.methodLink RX6 3 objectInit ∈ mv_tb := mv_w 217 (by decide +kernel) (by decide +kernel)
theorem wg_59 : Cond.classLink RX6 9 RX8 ∈ mv_tb := mv_w 218 (by decide +kernel) (by decide +kernel)
theorem wg_60 : Cond.instantiable RX8 2 ∈ mv_tb := mv_w 219 (by decide +kernel) (by decide +kernel)
theorem wg_61 : Cond.initialized RX8 ∈ mv_tb := mv_w 24 (by decide +kernel) (by decide +kernel)
theorem wg_62 : Cond.instanceMethod yX8_init ∈ mv_tb := mv_w 221 (by decide +kernel) (by decide +kernel)
theorem wg_63 : Cond.fieldLink RX6 12 "QuoteGrid$Reader" "text" "LQuoteGrid$Text;" ∈ mv_tb := mv_w 235 (by decide +kernel) (by decide +kernel)
theorem wg_64 : Cond.classLink RX6 18 RX1 ∈ mv_tb := mv_w 233 (by decide +kernel) (by decide +kernel)
theorem wg_65 : Cond.methodLink RX6 20 yX1_init ∈ mv_tb := mv_w 234 (by decide +kernel) (by decide +kernel)
theorem wg_66 : Cond.fieldLink RX6 21 "QuoteGrid$Reader" "draft" "LQuoteGrid$Content;" ∈ mv_tb := mv_w 237 (by decide +kernel) (by decide +kernel)
theorem wg_67 : Cond.fieldLink RX6 25 "QuoteGrid$Reader" "errorPosition" "I" ∈ mv_tb := mv_w 241 (by decide +kernel) (by decide +kernel)
theorem wg_68 : Cond.methodLink RX10 3 objectInit ∈ mv_tb := mv_w 36 (by decide +kernel) (by decide +kernel)
theorem wg_69 : Cond.classLink RX10 9 RX7 ∈ mv_tb := mv_w 39 (by decide +kernel) (by decide +kernel)
theorem wg_70 : Cond.methodLink RX10 11 yX7_init ∈ mv_tb := mv_w 41 (by decide +kernel) (by decide +kernel)
theorem wg_71 : Cond.fieldLink RX10 12 "QuoteGrid" "state" "LQuoteGrid$State;" ∈ mv_tb := mv_w 333 (by decide +kernel) (by decide +kernel)
theorem wg_72 : Cond.classLink RX10 16 RX3 ∈ mv_tb := mv_w 195 (by decide +kernel) (by decide +kernel)
theorem wg_73 : Cond.instantiable RX3 2 ∈ mv_tb := mv_w 196 (by decide +kernel) (by decide +kernel)
theorem wg_74 : Cond.initialized RX3 ∈ mv_tb := mv_w 22 (by decide +kernel) (by decide +kernel)
theorem wg_75 : Cond.instanceMethod yX3_init ∈ mv_tb := mv_w 198 (by decide +kernel) (by decide +kernel)
theorem wg_76 : Cond.methodLink RX10 18 yX3_init ∈ mv_tb := mv_w 197 (by decide +kernel) (by decide +kernel)
theorem wg_77 : Cond.fieldLink RX10 19 "QuoteGrid" "history" "LQuoteGrid$History;" ∈ mv_tb := mv_w 334 (by decide +kernel) (by decide +kernel)
theorem wg_78 : Cond.classLink RX10 23 RX6 ∈ mv_tb := mv_w 212 (by decide +kernel) (by decide +kernel)
theorem wg_79 : Cond.instantiable RX6 5 ∈ mv_tb := mv_w 213 (by decide +kernel) (by decide +kernel)
theorem wg_80 : Cond.initialized RX6 ∈ mv_tb := mv_w 23 (by decide +kernel) (by decide +kernel)
theorem wg_81 : Cond.instanceMethod yX6_init ∈ mv_tb := mv_w 215 (by decide +kernel) (by decide +kernel)
theorem wg_82 : Cond.fieldLink RX10 26 "QuoteGrid" "reader" "LQuoteGrid$Reader;" ∈ mv_tb := mv_w 335 (by decide +kernel) (by decide +kernel)
theorem wg_83 : Cond.fieldLink RX10 30 "QuoteGrid$Reader" "text" "LQuoteGrid$Text;" ∈ mv_tb := mv_w 236 (by decide +kernel) (by decide +kernel)
theorem wg_84 : Cond.fieldLink RX10 34 "QuoteGrid" "text" "LQuoteGrid$Text;" ∈ mv_tb := mv_w 336 (by decide +kernel) (by decide +kernel)
theorem wg_85 : Cond.classLink RX10 35 RX9 ∈ mv_tb := mv_w 255 (by decide +kernel) (by decide +kernel)
theorem wg_86 : Cond.instantiable RX9 6 ∈ mv_tb := mv_w 256 (by decide +kernel) (by decide +kernel)
theorem wg_87 : Cond.initialized RX9 ∈ mv_tb := mv_w 25 (by decide +kernel) (by decide +kernel)
theorem wg_88 : Cond.instanceMethod yX9_init ∈ mv_tb := mv_w 258 (by decide +kernel) (by decide +kernel)
theorem wg_89 : Cond.fieldLink RX10 38 "QuoteGrid" "trial" "LQuoteGrid$Trial;" ∈ mv_tb := mv_w 337 (by decide +kernel) (by decide +kernel)
theorem wg_90 : Cond.classLink RX10 42 RX4 ∈ mv_tb := mv_w 331 (by decide +kernel) (by decide +kernel)
theorem wg_91 : Cond.methodLink RX10 44 yX4_init ∈ mv_tb := mv_w 332 (by decide +kernel) (by decide +kernel)
theorem wg_92 : Cond.fieldLink RX10 45 "QuoteGrid" "layout" "LQuoteGrid$Layout;" ∈ mv_tb := mv_w 338 (by decide +kernel) (by decide +kernel)
theorem wg_93 : Cond.fieldLink RX10 49 "QuoteGrid" "layoutIsOld" "Z" ∈ mv_tb := mv_w 339 (by decide +kernel) (by decide +kernel)
theorem wg_94 : Cond.code yX0_init cX0_init 1 none ∈ mv_tb := mv_w 58 (by decide +kernel) (by decide +kernel)
theorem wg_95 : Cond.code yX5_init cX5_init 1 none ∈ mv_tb := mv_w 91 (by decide +kernel) (by decide +kernel)
theorem wg_96 : Cond.code yX2_init cX2_init 1 none ∈ mv_tb := mv_w 274 (by decide +kernel) (by decide +kernel)
theorem wg_97 : Cond.code yX8_init cX8_init 1 none ∈ mv_tb := mv_w 222 (by decide +kernel) (by decide +kernel)
theorem wg_98 : Cond.code yX1_init cX1_init 2 none ∈ mv_tb := mv_w 49 (by decide +kernel) (by decide +kernel)
theorem wg_99 : Cond.code yX4_init cX4_init 2 none ∈ mv_tb := mv_w 267 (by decide +kernel) (by decide +kernel)
theorem wg_100 : Cond.code yX7_init cX7_init 2 none ∈ mv_tb := mv_w 43 (by decide +kernel) (by decide +kernel)
theorem wg_101 : Cond.code yX3_init cX3_init 2 none ∈ mv_tb := mv_w 199 (by decide +kernel) (by decide +kernel)
theorem wg_102 : Cond.code yX9_init cX9_init 1 none ∈ mv_tb := mv_w 259 (by decide +kernel) (by decide +kernel)
theorem wg_103 : Cond.code yX6_init cX6_init 1 none ∈ mv_tb := mv_w 216 (by decide +kernel) (by decide +kernel)
theorem wg_104 : Cond.code yX10_init cX10_init 1 none ∈ mv_tb := mv_w 35 (by decide +kernel) (by decide +kernel)
theorem wg_105 : Cond.initialized RX10 ∈ mv_tb := mv_w 17 (by decide +kernel) (by decide +kernel)
theorem yk_X0_init : mv_Yk yX0_init cX0_init 1 none 0 := ⟨wg_94, wg_18, by decide +kernel, by decide +kernel, by decide⟩
theorem yk_X5_init : mv_Yk yX5_init cX5_init 1 none 0 := ⟨wg_95, wg_21, by decide +kernel, by decide +kernel, by decide⟩
theorem yk_X2_init : mv_Yk yX2_init cX2_init 1 none 0 := ⟨wg_96, wg_28, by decide +kernel, by decide +kernel, by decide⟩
theorem yk_X8_init : mv_Yk yX8_init cX8_init 1 none 0 := ⟨wg_97, wg_61, by decide +kernel, by decide +kernel, by decide⟩
theorem yk_X1_init : mv_Yk yX1_init cX1_init 2 none 0 := ⟨wg_98, wg_33, by decide +kernel, by decide +kernel, by decide⟩
theorem yk_X4_init : mv_Yk yX4_init cX4_init 2 none 0 := ⟨wg_99, wg_53, by decide +kernel, by decide +kernel, by decide⟩
theorem yk_X7_init : mv_Yk yX7_init cX7_init 2 none 0 := ⟨wg_100, wg_44, by decide +kernel, by decide +kernel, by decide⟩
theorem yk_X3_init : mv_Yk yX3_init cX3_init 2 none 0 := ⟨wg_101, wg_74, by decide +kernel, by decide +kernel, by decide⟩
theorem yk_X9_init : mv_Yk yX9_init cX9_init 1 none 0 := ⟨wg_102, wg_87, by decide +kernel, by decide +kernel, by decide⟩
theorem yk_X6_init : mv_Yk yX6_init cX6_init 1 none 0 := ⟨wg_103, wg_80, by decide +kernel, by decide +kernel, by decide⟩
theorem yk_X10_init : mv_Yk yX10_init cX10_init 1 none 0 := ⟨wg_104, wg_105, by decide +kernel, by decide +kernel, by decide⟩
theorem mg_dv {G : mg_G} {c j k : Nat} {o : Option (Nat × Nat × Nat)} (h : ∀ k, G.2.2.1 c j k = none ∧ G.2.2.2 c j k = 0) (hf : (mv_fd c)[k]? = some o) : vp_V (mg_fs G c j) k = (match o with | none => .int 0 | some _ => .null) := by
  unfold vp_V
  rw [List.getD_eq_getElem?_getD, mg_fs_at hf]
  cases o with
  | none => show Value.int (Int32.ofInt (G.2.2.2 c j k)) = _; rw [(h k).2]; rfl
  | some o => show va_rf (G.2.2.1 c j k) = _; rw [(h k).1]; rfl
theorem nd_X0 : ∀ (G : mg_G) (j : Nat), (∀ k, G.2.2.1 0 j k = none ∧ G.2.2.2 0 j k = 0) → ∀ k, k < 4 → defaultValue (tyX0 k) = vp_V (mg_fs G 0 j) k := by
  intro G j h k hk
  rcases (show k = 0 ∨ k = 1 ∨ k = 2 ∨ k = 3 by omega) with rfl | rfl | rfl | rfl
  · exact (mg_dv (o := some (15, 1, 0)) h rfl).symm
  · exact (mg_dv (o := none) h rfl).symm
  · exact (mg_dv (o := none) h rfl).symm
  · exact (mg_dv (o := none) h rfl).symm
theorem nd_X1 : ∀ (G : mg_G) (j : Nat), (∀ k, G.2.2.1 1 j k = none ∧ G.2.2.2 1 j k = 0) → ∀ k, k < 5 → defaultValue (tyX1 k) = vp_V (mg_fs G 1 j) k := by
  intro G j h k hk
  rcases (show k = 0 ∨ k = 1 ∨ k = 2 ∨ k = 3 ∨ k = 4 by omega) with rfl | rfl | rfl | rfl | rfl
  · exact (mg_dv (o := some (12, 1, 0)) h rfl).symm
  · exact (mg_dv (o := some (13, 1, 0)) h rfl).symm
  · exact (mg_dv (o := some (14, 1, 0)) h rfl).symm
  · exact (mg_dv (o := none) h rfl).symm
  · exact (mg_dv (o := none) h rfl).symm
theorem nd_X2 : ∀ (G : mg_G) (j : Nat), (∀ k, G.2.2.1 2 j k = none ∧ G.2.2.2 2 j k = 0) → ∀ k, k < 5 → defaultValue (tyX2 k) = vp_V (mg_fs G 2 j) k := by
  intro G j h k hk
  rcases (show k = 0 ∨ k = 1 ∨ k = 2 ∨ k = 3 ∨ k = 4 by omega) with rfl | rfl | rfl | rfl | rfl
  · exact (mg_dv (o := some (22, 1, 0)) h rfl).symm
  · exact (mg_dv (o := some (23, 1, 0)) h rfl).symm
  · exact (mg_dv (o := none) h rfl).symm
  · exact (mg_dv (o := none) h rfl).symm
  · exact (mg_dv (o := none) h rfl).symm
theorem nd_X3 : ∀ (G : mg_G) (j : Nat), (∀ k, G.2.2.1 3 j k = none ∧ G.2.2.2 3 j k = 0) → ∀ k, k < 2 → defaultValue (tyX3 k) = vp_V (mg_fs G 3 j) k := by
  intro G j h k hk
  rcases (show k = 0 ∨ k = 1 by omega) with rfl | rfl
  · exact (mg_dv (o := some (18, 0, 0)) h rfl).symm
  · exact (mg_dv (o := none) h rfl).symm
theorem nd_X4 : ∀ (G : mg_G) (j : Nat), (∀ k, G.2.2.1 4 j k = none ∧ G.2.2.2 4 j k = 0) → ∀ k, k < 3 → defaultValue (tyX4 k) = vp_V (mg_fs G 4 j) k := by
  intro G j h k hk
  rcases (show k = 0 ∨ k = 1 ∨ k = 2 by omega) with rfl | rfl | rfl
  · exact (mg_dv (o := some (20, 1, 0)) h rfl).symm
  · exact (mg_dv (o := some (21, 1, 0)) h rfl).symm
  · exact (mg_dv (o := none) h rfl).symm
theorem nd_X5 : ∀ (G : mg_G) (j : Nat), (∀ k, G.2.2.1 5 j k = none ∧ G.2.2.2 5 j k = 0) → ∀ k, k < 8 → defaultValue (tyX5 k) = vp_V (mg_fs G 5 j) k := by
  intro G j h k hk
  rcases (show k = 0 ∨ k = 1 ∨ k = 2 ∨ k = 3 ∨ k = 4 ∨ k = 5 ∨ k = 6 ∨ k = 7 by omega) with rfl | rfl | rfl | rfl | rfl | rfl | rfl | rfl
  · exact (mg_dv (o := none) h rfl).symm
  · exact (mg_dv (o := none) h rfl).symm
  · exact (mg_dv (o := none) h rfl).symm
  · exact (mg_dv (o := none) h rfl).symm
  · exact (mg_dv (o := none) h rfl).symm
  · exact (mg_dv (o := none) h rfl).symm
  · exact (mg_dv (o := none) h rfl).symm
  · exact (mg_dv (o := none) h rfl).symm
theorem nd_X6 : ∀ (G : mg_G) (j : Nat), (∀ k, G.2.2.1 6 j k = none ∧ G.2.2.2 6 j k = 0) → ∀ k, k < 5 → defaultValue (tyX6 k) = vp_V (mg_fs G 6 j) k := by
  intro G j h k hk
  rcases (show k = 0 ∨ k = 1 ∨ k = 2 ∨ k = 3 ∨ k = 4 by omega) with rfl | rfl | rfl | rfl | rfl
  · exact (mg_dv (o := some (8, 0, 0)) h rfl).symm
  · exact (mg_dv (o := some (1, 0, 19)) h rfl).symm
  · exact (mg_dv (o := none) h rfl).symm
  · exact (mg_dv (o := none) h rfl).symm
  · exact (mg_dv (o := none) h rfl).symm
theorem nd_X7 : ∀ (G : mg_G) (j : Nat), (∀ k, G.2.2.1 7 j k = none ∧ G.2.2.2 7 j k = 0) → ∀ k, k < 3 → defaultValue (tyX7 k) = vp_V (mg_fs G 7 j) k := by
  intro G j h k hk
  rcases (show k = 0 ∨ k = 1 ∨ k = 2 by omega) with rfl | rfl | rfl
  · exact (mg_dv (o := some (1, 3, 0)) h rfl).symm
  · exact (mg_dv (o := some (16, 1, 0)) h rfl).symm
  · exact (mg_dv (o := some (17, 1, 0)) h rfl).symm
theorem nd_X8 : ∀ (G : mg_G) (j : Nat), (∀ k, G.2.2.1 8 j k = none ∧ G.2.2.2 8 j k = 0) → ∀ k, k < 2 → defaultValue (tyX8 k) = vp_V (mg_fs G 8 j) k := by
  intro G j h k hk
  rcases (show k = 0 ∨ k = 1 by omega) with rfl | rfl
  · exact (mg_dv (o := some (19, 0, 0)) h rfl).symm
  · exact (mg_dv (o := none) h rfl).symm
theorem nd_X9 : ∀ (G : mg_G) (j : Nat), (∀ k, G.2.2.1 9 j k = none ∧ G.2.2.2 9 j k = 0) → ∀ k, k < 6 → defaultValue (tyX9 k) = vp_V (mg_fs G 9 j) k := by
  intro G j h k hk
  rcases (show k = 0 ∨ k = 1 ∨ k = 2 ∨ k = 3 ∨ k = 4 ∨ k = 5 by omega) with rfl | rfl | rfl | rfl | rfl | rfl
  · exact (mg_dv (o := some (1, 0, 18)) h rfl).symm
  · exact (mg_dv (o := some (4, 0, 0)) h rfl).symm
  · exact (mg_dv (o := some (4, 0, 1)) h rfl).symm
  · exact (mg_dv (o := none) h rfl).symm
  · exact (mg_dv (o := none) h rfl).symm
  · exact (mg_dv (o := none) h rfl).symm
theorem nd_X10 : ∀ (G : mg_G) (j : Nat), (∀ k, G.2.2.1 10 j k = none ∧ G.2.2.2 10 j k = 0) → ∀ k, k < 7 → defaultValue (tyX10 k) = vp_V (mg_fs G 10 j) k := by
  intro G j h k hk
  rcases (show k = 0 ∨ k = 1 ∨ k = 2 ∨ k = 3 ∨ k = 4 ∨ k = 5 ∨ k = 6 by omega) with rfl | rfl | rfl | rfl | rfl | rfl | rfl
  · exact (mg_dv (o := some (7, 0, 0)) h rfl).symm
  · exact (mg_dv (o := some (3, 0, 0)) h rfl).symm
  · exact (mg_dv (o := some (6, 0, 0)) h rfl).symm
  · exact (mg_dv (o := some (8, 0, 0)) h rfl).symm
  · exact (mg_dv (o := some (9, 0, 0)) h rfl).symm
  · exact (mg_dv (o := some (4, 0, 2)) h rfl).symm
  · exact (mg_dv (o := none) h rfl).symm
theorem dX0_init_0 : decode cX0_init 0 = .ok (.aload_n 0, 1) := by decide +kernel
theorem dX0_init_1 : decode cX0_init 1 = .ok (.invokespecial 3, 3) := by decide +kernel
theorem dX0_init_4 : decode cX0_init 4 = .ok (.aload_n 0, 1) := by decide +kernel
theorem dX0_init_5 : decode cX0_init 5 = .ok (.bipush 8, 2) := by decide +kernel
theorem dX0_init_7 : decode cX0_init 7 = .ok (.newarray .int, 2) := by decide +kernel
theorem dX0_init_9 : decode cX0_init 9 = .ok (.putfield 9, 3) := by decide +kernel
theorem dX0_init_12 : decode cX0_init 12 = .ok (.return_, 1) := by decide +kernel
theorem dX5_init_0 : decode cX5_init 0 = .ok (.aload_n 0, 1) := by decide +kernel
theorem dX5_init_1 : decode cX5_init 1 = .ok (.invokespecial 3, 3) := by decide +kernel
theorem dX5_init_4 : decode cX5_init 4 = .ok (.return_, 1) := by decide +kernel
theorem dX2_init_0 : decode cX2_init 0 = .ok (.aload_n 0, 1) := by decide +kernel
theorem dX2_init_1 : decode cX2_init 1 = .ok (.invokespecial 3, 3) := by decide +kernel
theorem dX2_init_4 : decode cX2_init 4 = .ok (.aload_n 0, 1) := by decide +kernel
theorem dX2_init_5 : decode cX2_init 5 = .ok (.sipush 200, 3) := by decide +kernel
theorem dX2_init_8 : decode cX2_init 8 = .ok (.newarray .int, 2) := by decide +kernel
theorem dX2_init_10 : decode cX2_init 10 = .ok (.putfield 9, 3) := by decide +kernel
theorem dX2_init_13 : decode cX2_init 13 = .ok (.aload_n 0, 1) := by decide +kernel
theorem dX2_init_14 : decode cX2_init 14 = .ok (.iconst 3, 1) := by decide +kernel
theorem dX2_init_15 : decode cX2_init 15 = .ok (.newarray .int, 2) := by decide +kernel
theorem dX2_init_17 : decode cX2_init 17 = .ok (.putfield 15, 3) := by decide +kernel
theorem dX2_init_20 : decode cX2_init 20 = .ok (.return_, 1) := by decide +kernel
theorem dX8_init_0 : decode cX8_init 0 = .ok (.aload_n 0, 1) := by decide +kernel
theorem dX8_init_1 : decode cX8_init 1 = .ok (.invokespecial 3, 3) := by decide +kernel
theorem dX8_init_4 : decode cX8_init 4 = .ok (.aload_n 0, 1) := by decide +kernel
theorem dX8_init_5 : decode cX8_init 5 = .ok (.sipush 140, 3) := by decide +kernel
theorem dX8_init_8 : decode cX8_init 8 = .ok (.newarray .int, 2) := by decide +kernel
theorem dX8_init_10 : decode cX8_init 10 = .ok (.putfield 9, 3) := by decide +kernel
theorem dX8_init_13 : decode cX8_init 13 = .ok (.return_, 1) := by decide +kernel
theorem dX1_init_0 : decode cX1_init 0 = .ok (.aload_n 0, 1) := by decide +kernel
theorem dX1_init_1 : decode cX1_init 1 = .ok (.invokespecial 3, 3) := by decide +kernel
theorem dX1_init_4 : decode cX1_init 4 = .ok (.aload_n 0, 1) := by decide +kernel
theorem dX1_init_5 : decode cX1_init 5 = .ok (.bipush 6, 2) := by decide +kernel
theorem dX1_init_7 : decode cX1_init 7 = .ok (.anewarray 9, 3) := by decide +kernel
theorem dX1_init_10 : decode cX1_init 10 = .ok (.putfield 11, 3) := by decide +kernel
theorem dX1_init_13 : decode cX1_init 13 = .ok (.aload_n 0, 1) := by decide +kernel
theorem dX1_init_14 : decode cX1_init 14 = .ok (.bipush 8, 2) := by decide +kernel
theorem dX1_init_16 : decode cX1_init 16 = .ok (.anewarray 17, 3) := by decide +kernel
theorem dX1_init_19 : decode cX1_init 19 = .ok (.putfield 19, 3) := by decide +kernel
theorem dX1_init_22 : decode cX1_init 22 = .ok (.aload_n 0, 1) := by decide +kernel
theorem dX1_init_23 : decode cX1_init 23 = .ok (.iconst 3, 1) := by decide +kernel
theorem dX1_init_24 : decode cX1_init 24 = .ok (.newarray .int, 2) := by decide +kernel
theorem dX1_init_26 : decode cX1_init 26 = .ok (.putfield 23, 3) := by decide +kernel
theorem dX1_init_29 : decode cX1_init 29 = .ok (.iconst 0, 1) := by decide +kernel
theorem dX1_init_30 : decode cX1_init 30 = .ok (.istore_n 1, 1) := by decide +kernel
theorem dX1_init_31 : decode cX1_init 31 = .ok (.iload_n 1, 1) := by decide +kernel
theorem dX1_init_32 : decode cX1_init 32 = .ok (.bipush 6, 2) := by decide +kernel
theorem dX1_init_34 : decode cX1_init 34 = .ok (.if_icmp .ge 22, 3) := by decide +kernel
theorem dX1_init_37 : decode cX1_init 37 = .ok (.aload_n 0, 1) := by decide +kernel
theorem dX1_init_38 : decode cX1_init 38 = .ok (.getfield 11, 3) := by decide +kernel
theorem dX1_init_41 : decode cX1_init 41 = .ok (.iload_n 1, 1) := by decide +kernel
theorem dX1_init_42 : decode cX1_init 42 = .ok (.new 9, 3) := by decide +kernel
theorem dX1_init_45 : decode cX1_init 45 = .ok (.dup, 1) := by decide +kernel
theorem dX1_init_46 : decode cX1_init 46 = .ok (.invokespecial 27, 3) := by decide +kernel
theorem dX1_init_49 : decode cX1_init 49 = .ok (.aastore, 1) := by decide +kernel
theorem dX1_init_50 : decode cX1_init 50 = .ok (.iinc 1 1, 3) := by decide +kernel
theorem dX1_init_53 : decode cX1_init 53 = .ok (.goto (-22), 3) := by decide +kernel
theorem dX1_init_56 : decode cX1_init 56 = .ok (.iconst 0, 1) := by decide +kernel
theorem dX1_init_57 : decode cX1_init 57 = .ok (.istore_n 1, 1) := by decide +kernel
theorem dX1_init_58 : decode cX1_init 58 = .ok (.iload_n 1, 1) := by decide +kernel
theorem dX1_init_59 : decode cX1_init 59 = .ok (.bipush 8, 2) := by decide +kernel
theorem dX1_init_61 : decode cX1_init 61 = .ok (.if_icmp .ge 22, 3) := by decide +kernel
theorem dX1_init_64 : decode cX1_init 64 = .ok (.aload_n 0, 1) := by decide +kernel
theorem dX1_init_65 : decode cX1_init 65 = .ok (.getfield 19, 3) := by decide +kernel
theorem dX1_init_68 : decode cX1_init 68 = .ok (.iload_n 1, 1) := by decide +kernel
theorem dX1_init_69 : decode cX1_init 69 = .ok (.new 17, 3) := by decide +kernel
theorem dX1_init_72 : decode cX1_init 72 = .ok (.dup, 1) := by decide +kernel
theorem dX1_init_73 : decode cX1_init 73 = .ok (.invokespecial 28, 3) := by decide +kernel
theorem dX1_init_76 : decode cX1_init 76 = .ok (.aastore, 1) := by decide +kernel
theorem dX1_init_77 : decode cX1_init 77 = .ok (.iinc 1 1, 3) := by decide +kernel
theorem dX1_init_80 : decode cX1_init 80 = .ok (.goto (-22), 3) := by decide +kernel
theorem dX1_init_83 : decode cX1_init 83 = .ok (.aload_n 0, 1) := by decide +kernel
theorem dX1_init_84 : decode cX1_init 84 = .ok (.getfield 23, 3) := by decide +kernel
theorem dX1_init_87 : decode cX1_init 87 = .ok (.iconst 0, 1) := by decide +kernel
theorem dX1_init_88 : decode cX1_init 88 = .ok (.iconst 3, 1) := by decide +kernel
theorem dX1_init_89 : decode cX1_init 89 = .ok (.iastore, 1) := by decide +kernel
theorem dX1_init_90 : decode cX1_init 90 = .ok (.aload_n 0, 1) := by decide +kernel
theorem dX1_init_91 : decode cX1_init 91 = .ok (.getfield 23, 3) := by decide +kernel
theorem dX1_init_94 : decode cX1_init 94 = .ok (.iconst 1, 1) := by decide +kernel
theorem dX1_init_95 : decode cX1_init 95 = .ok (.bipush 12, 2) := by decide +kernel
theorem dX1_init_97 : decode cX1_init 97 = .ok (.iastore, 1) := by decide +kernel
theorem dX1_init_98 : decode cX1_init 98 = .ok (.aload_n 0, 1) := by decide +kernel
theorem dX1_init_99 : decode cX1_init 99 = .ok (.getfield 23, 3) := by decide +kernel
theorem dX1_init_102 : decode cX1_init 102 = .ok (.iconst 2, 1) := by decide +kernel
theorem dX1_init_103 : decode cX1_init 103 = .ok (.iconst 2, 1) := by decide +kernel
theorem dX1_init_104 : decode cX1_init 104 = .ok (.iastore, 1) := by decide +kernel
theorem dX1_init_105 : decode cX1_init 105 = .ok (.return_, 1) := by decide +kernel
theorem dX4_init_0 : decode cX4_init 0 = .ok (.aload_n 0, 1) := by decide +kernel
theorem dX4_init_1 : decode cX4_init 1 = .ok (.invokespecial 3, 3) := by decide +kernel
theorem dX4_init_4 : decode cX4_init 4 = .ok (.aload_n 0, 1) := by decide +kernel
theorem dX4_init_5 : decode cX4_init 5 = .ok (.sipush 360, 3) := by decide +kernel
theorem dX4_init_8 : decode cX4_init 8 = .ok (.newarray .int, 2) := by decide +kernel
theorem dX4_init_10 : decode cX4_init 10 = .ok (.putfield 9, 3) := by decide +kernel
theorem dX4_init_13 : decode cX4_init 13 = .ok (.aload_n 0, 1) := by decide +kernel
theorem dX4_init_14 : decode cX4_init 14 = .ok (.bipush 6, 2) := by decide +kernel
theorem dX4_init_16 : decode cX4_init 16 = .ok (.anewarray 15, 3) := by decide +kernel
theorem dX4_init_19 : decode cX4_init 19 = .ok (.putfield 17, 3) := by decide +kernel
theorem dX4_init_22 : decode cX4_init 22 = .ok (.iconst 0, 1) := by decide +kernel
theorem dX4_init_23 : decode cX4_init 23 = .ok (.istore_n 1, 1) := by decide +kernel
theorem dX4_init_24 : decode cX4_init 24 = .ok (.iload_n 1, 1) := by decide +kernel
theorem dX4_init_25 : decode cX4_init 25 = .ok (.bipush 6, 2) := by decide +kernel
theorem dX4_init_27 : decode cX4_init 27 = .ok (.if_icmp .ge 22, 3) := by decide +kernel
theorem dX4_init_30 : decode cX4_init 30 = .ok (.aload_n 0, 1) := by decide +kernel
theorem dX4_init_31 : decode cX4_init 31 = .ok (.getfield 17, 3) := by decide +kernel
theorem dX4_init_34 : decode cX4_init 34 = .ok (.iload_n 1, 1) := by decide +kernel
theorem dX4_init_35 : decode cX4_init 35 = .ok (.new 15, 3) := by decide +kernel
theorem dX4_init_38 : decode cX4_init 38 = .ok (.dup, 1) := by decide +kernel
theorem dX4_init_39 : decode cX4_init 39 = .ok (.invokespecial 21, 3) := by decide +kernel
theorem dX4_init_42 : decode cX4_init 42 = .ok (.aastore, 1) := by decide +kernel
theorem dX4_init_43 : decode cX4_init 43 = .ok (.iinc 1 1, 3) := by decide +kernel
theorem dX4_init_46 : decode cX4_init 46 = .ok (.goto (-22), 3) := by decide +kernel
theorem dX4_init_49 : decode cX4_init 49 = .ok (.return_, 1) := by decide +kernel
theorem dX7_init_0 : decode cX7_init 0 = .ok (.aload_n 0, 1) := by decide +kernel
theorem dX7_init_1 : decode cX7_init 1 = .ok (.invokespecial 3, 3) := by decide +kernel
theorem dX7_init_4 : decode cX7_init 4 = .ok (.aload_n 0, 1) := by decide +kernel
theorem dX7_init_5 : decode cX7_init 5 = .ok (.new 9, 3) := by decide +kernel
theorem dX7_init_8 : decode cX7_init 8 = .ok (.dup, 1) := by decide +kernel
theorem dX7_init_9 : decode cX7_init 9 = .ok (.invokespecial 11, 3) := by decide +kernel
theorem dX7_init_12 : decode cX7_init 12 = .ok (.putfield 12, 3) := by decide +kernel
theorem dX7_init_15 : decode cX7_init 15 = .ok (.aload_n 0, 1) := by decide +kernel
theorem dX7_init_16 : decode cX7_init 16 = .ok (.iconst 2, 1) := by decide +kernel
theorem dX7_init_17 : decode cX7_init 17 = .ok (.anewarray 9, 3) := by decide +kernel
theorem dX7_init_20 : decode cX7_init 20 = .ok (.putfield 18, 3) := by decide +kernel
theorem dX7_init_23 : decode cX7_init 23 = .ok (.aload_n 0, 1) := by decide +kernel
theorem dX7_init_24 : decode cX7_init 24 = .ok (.iconst 2, 1) := by decide +kernel
theorem dX7_init_25 : decode cX7_init 25 = .ok (.newarray .boolean, 2) := by decide +kernel
theorem dX7_init_27 : decode cX7_init 27 = .ok (.putfield 22, 3) := by decide +kernel
theorem dX7_init_30 : decode cX7_init 30 = .ok (.iconst 0, 1) := by decide +kernel
theorem dX7_init_31 : decode cX7_init 31 = .ok (.istore_n 1, 1) := by decide +kernel
theorem dX7_init_32 : decode cX7_init 32 = .ok (.iload_n 1, 1) := by decide +kernel
theorem dX7_init_33 : decode cX7_init 33 = .ok (.iconst 2, 1) := by decide +kernel
theorem dX7_init_34 : decode cX7_init 34 = .ok (.if_icmp .ge 22, 3) := by decide +kernel
theorem dX7_init_37 : decode cX7_init 37 = .ok (.aload_n 0, 1) := by decide +kernel
theorem dX7_init_38 : decode cX7_init 38 = .ok (.getfield 18, 3) := by decide +kernel
theorem dX7_init_41 : decode cX7_init 41 = .ok (.iload_n 1, 1) := by decide +kernel
theorem dX7_init_42 : decode cX7_init 42 = .ok (.new 9, 3) := by decide +kernel
theorem dX7_init_45 : decode cX7_init 45 = .ok (.dup, 1) := by decide +kernel
theorem dX7_init_46 : decode cX7_init 46 = .ok (.invokespecial 11, 3) := by decide +kernel
theorem dX7_init_49 : decode cX7_init 49 = .ok (.aastore, 1) := by decide +kernel
theorem dX7_init_50 : decode cX7_init 50 = .ok (.iinc 1 1, 3) := by decide +kernel
theorem dX7_init_53 : decode cX7_init 53 = .ok (.goto (-21), 3) := by decide +kernel
theorem dX7_init_56 : decode cX7_init 56 = .ok (.return_, 1) := by decide +kernel
theorem dX3_init_0 : decode cX3_init 0 = .ok (.aload_n 0, 1) := by decide +kernel
theorem dX3_init_1 : decode cX3_init 1 = .ok (.invokespecial 3, 3) := by decide +kernel
theorem dX3_init_4 : decode cX3_init 4 = .ok (.aload_n 0, 1) := by decide +kernel
theorem dX3_init_5 : decode cX3_init 5 = .ok (.iconst 5, 1) := by decide +kernel
theorem dX3_init_6 : decode cX3_init 6 = .ok (.anewarray 9, 3) := by decide +kernel
theorem dX3_init_9 : decode cX3_init 9 = .ok (.putfield 11, 3) := by decide +kernel
theorem dX3_init_12 : decode cX3_init 12 = .ok (.iconst 0, 1) := by decide +kernel
theorem dX3_init_13 : decode cX3_init 13 = .ok (.istore_n 1, 1) := by decide +kernel
theorem dX3_init_14 : decode cX3_init 14 = .ok (.iload_n 1, 1) := by decide +kernel
theorem dX3_init_15 : decode cX3_init 15 = .ok (.iconst 5, 1) := by decide +kernel
theorem dX3_init_16 : decode cX3_init 16 = .ok (.if_icmp .ge 22, 3) := by decide +kernel
theorem dX3_init_19 : decode cX3_init 19 = .ok (.aload_n 0, 1) := by decide +kernel
theorem dX3_init_20 : decode cX3_init 20 = .ok (.getfield 11, 3) := by decide +kernel
theorem dX3_init_23 : decode cX3_init 23 = .ok (.iload_n 1, 1) := by decide +kernel
theorem dX3_init_24 : decode cX3_init 24 = .ok (.new 9, 3) := by decide +kernel
theorem dX3_init_27 : decode cX3_init 27 = .ok (.dup, 1) := by decide +kernel
theorem dX3_init_28 : decode cX3_init 28 = .ok (.invokespecial 17, 3) := by decide +kernel
theorem dX3_init_31 : decode cX3_init 31 = .ok (.aastore, 1) := by decide +kernel
theorem dX3_init_32 : decode cX3_init 32 = .ok (.iinc 1 1, 3) := by decide +kernel
theorem dX3_init_35 : decode cX3_init 35 = .ok (.goto (-21), 3) := by decide +kernel
theorem dX3_init_38 : decode cX3_init 38 = .ok (.return_, 1) := by decide +kernel
theorem dX9_init_0 : decode cX9_init 0 = .ok (.aload_n 0, 1) := by decide +kernel
theorem dX9_init_1 : decode cX9_init 1 = .ok (.invokespecial 3, 3) := by decide +kernel
theorem dX9_init_4 : decode cX9_init 4 = .ok (.aload_n 0, 1) := by decide +kernel
theorem dX9_init_5 : decode cX9_init 5 = .ok (.new 9, 3) := by decide +kernel
theorem dX9_init_8 : decode cX9_init 8 = .ok (.dup, 1) := by decide +kernel
theorem dX9_init_9 : decode cX9_init 9 = .ok (.invokespecial 11, 3) := by decide +kernel
theorem dX9_init_12 : decode cX9_init 12 = .ok (.putfield 12, 3) := by decide +kernel
theorem dX9_init_15 : decode cX9_init 15 = .ok (.aload_n 0, 1) := by decide +kernel
theorem dX9_init_16 : decode cX9_init 16 = .ok (.new 18, 3) := by decide +kernel
theorem dX9_init_19 : decode cX9_init 19 = .ok (.dup, 1) := by decide +kernel
theorem dX9_init_20 : decode cX9_init 20 = .ok (.invokespecial 20, 3) := by decide +kernel
theorem dX9_init_23 : decode cX9_init 23 = .ok (.putfield 21, 3) := by decide +kernel
theorem dX9_init_26 : decode cX9_init 26 = .ok (.aload_n 0, 1) := by decide +kernel
theorem dX9_init_27 : decode cX9_init 27 = .ok (.new 18, 3) := by decide +kernel
theorem dX9_init_30 : decode cX9_init 30 = .ok (.dup, 1) := by decide +kernel
theorem dX9_init_31 : decode cX9_init 31 = .ok (.invokespecial 20, 3) := by decide +kernel
theorem dX9_init_34 : decode cX9_init 34 = .ok (.putfield 25, 3) := by decide +kernel
theorem dX9_init_37 : decode cX9_init 37 = .ok (.return_, 1) := by decide +kernel
theorem dX6_init_0 : decode cX6_init 0 = .ok (.aload_n 0, 1) := by decide +kernel
theorem dX6_init_1 : decode cX6_init 1 = .ok (.invokespecial 3, 3) := by decide +kernel
theorem dX6_init_4 : decode cX6_init 4 = .ok (.aload_n 0, 1) := by decide +kernel
theorem dX6_init_5 : decode cX6_init 5 = .ok (.new 9, 3) := by decide +kernel
theorem dX6_init_8 : decode cX6_init 8 = .ok (.dup, 1) := by decide +kernel
theorem dX6_init_9 : decode cX6_init 9 = .ok (.invokespecial 11, 3) := by decide +kernel
theorem dX6_init_12 : decode cX6_init 12 = .ok (.putfield 12, 3) := by decide +kernel
theorem dX6_init_15 : decode cX6_init 15 = .ok (.aload_n 0, 1) := by decide +kernel
theorem dX6_init_16 : decode cX6_init 16 = .ok (.new 18, 3) := by decide +kernel
theorem dX6_init_19 : decode cX6_init 19 = .ok (.dup, 1) := by decide +kernel
theorem dX6_init_20 : decode cX6_init 20 = .ok (.invokespecial 20, 3) := by decide +kernel
theorem dX6_init_23 : decode cX6_init 23 = .ok (.putfield 21, 3) := by decide +kernel
theorem dX6_init_26 : decode cX6_init 26 = .ok (.aload_n 0, 1) := by decide +kernel
theorem dX6_init_27 : decode cX6_init 27 = .ok (.iconst (-1), 1) := by decide +kernel
theorem dX6_init_28 : decode cX6_init 28 = .ok (.putfield 25, 3) := by decide +kernel
theorem dX6_init_31 : decode cX6_init 31 = .ok (.return_, 1) := by decide +kernel
theorem dX10_init_0 : decode cX10_init 0 = .ok (.aload_n 0, 1) := by decide +kernel
theorem dX10_init_1 : decode cX10_init 1 = .ok (.invokespecial 3, 3) := by decide +kernel
theorem dX10_init_4 : decode cX10_init 4 = .ok (.aload_n 0, 1) := by decide +kernel
theorem dX10_init_5 : decode cX10_init 5 = .ok (.new 9, 3) := by decide +kernel
theorem dX10_init_8 : decode cX10_init 8 = .ok (.dup, 1) := by decide +kernel
theorem dX10_init_9 : decode cX10_init 9 = .ok (.invokespecial 11, 3) := by decide +kernel
theorem dX10_init_12 : decode cX10_init 12 = .ok (.putfield 12, 3) := by decide +kernel
theorem dX10_init_15 : decode cX10_init 15 = .ok (.aload_n 0, 1) := by decide +kernel
theorem dX10_init_16 : decode cX10_init 16 = .ok (.new 16, 3) := by decide +kernel
theorem dX10_init_19 : decode cX10_init 19 = .ok (.dup, 1) := by decide +kernel
theorem dX10_init_20 : decode cX10_init 20 = .ok (.invokespecial 18, 3) := by decide +kernel
theorem dX10_init_23 : decode cX10_init 23 = .ok (.putfield 19, 3) := by decide +kernel
theorem dX10_init_26 : decode cX10_init 26 = .ok (.aload_n 0, 1) := by decide +kernel
theorem dX10_init_27 : decode cX10_init 27 = .ok (.new 23, 3) := by decide +kernel
theorem dX10_init_30 : decode cX10_init 30 = .ok (.dup, 1) := by decide +kernel
theorem dX10_init_31 : decode cX10_init 31 = .ok (.invokespecial 25, 3) := by decide +kernel
theorem dX10_init_34 : decode cX10_init 34 = .ok (.putfield 26, 3) := by decide +kernel
theorem dX10_init_37 : decode cX10_init 37 = .ok (.aload_n 0, 1) := by decide +kernel
theorem dX10_init_38 : decode cX10_init 38 = .ok (.aload_n 0, 1) := by decide +kernel
theorem dX10_init_39 : decode cX10_init 39 = .ok (.getfield 26, 3) := by decide +kernel
theorem dX10_init_42 : decode cX10_init 42 = .ok (.getfield 30, 3) := by decide +kernel
theorem dX10_init_45 : decode cX10_init 45 = .ok (.putfield 34, 3) := by decide +kernel
theorem dX10_init_48 : decode cX10_init 48 = .ok (.aload_n 0, 1) := by decide +kernel
theorem dX10_init_49 : decode cX10_init 49 = .ok (.new 35, 3) := by decide +kernel
theorem dX10_init_52 : decode cX10_init 52 = .ok (.dup, 1) := by decide +kernel
theorem dX10_init_53 : decode cX10_init 53 = .ok (.invokespecial 37, 3) := by decide +kernel
theorem dX10_init_56 : decode cX10_init 56 = .ok (.putfield 38, 3) := by decide +kernel
theorem dX10_init_59 : decode cX10_init 59 = .ok (.aload_n 0, 1) := by decide +kernel
theorem dX10_init_60 : decode cX10_init 60 = .ok (.new 42, 3) := by decide +kernel
theorem dX10_init_63 : decode cX10_init 63 = .ok (.dup, 1) := by decide +kernel
theorem dX10_init_64 : decode cX10_init 64 = .ok (.invokespecial 44, 3) := by decide +kernel
theorem dX10_init_67 : decode cX10_init 67 = .ok (.putfield 45, 3) := by decide +kernel
theorem dX10_init_70 : decode cX10_init 70 = .ok (.aload_n 0, 1) := by decide +kernel
theorem dX10_init_71 : decode cX10_init 71 = .ok (.iconst 1, 1) := by decide +kernel
theorem dX10_init_72 : decode cX10_init 72 = .ok (.putfield 49, 3) := by decide +kernel
theorem dX10_init_75 : decode cX10_init 75 = .ok (.return_, 1) := by decide +kernel
def tb_X0_init : List (Nat × mg_O) := [(0, ng_aload 0 1), (1, ng_obj 4), (4, ng_aload 0 5), (5, ng_const 8 7), (7, ng_arr 15 8 1 8 9), (9, ng_putr 0 0 12), (12, ng_ret 1 8)]
theorem ts_X0_init : ∀ x ∈ tb_X0_init, mg_Snd cX0_init 1 RX0 0 1 8 x.1 x.2 := mv_fc (nS_aload_n dX0_init_0 rfl) (mv_fc (nS_obj dX0_init_1 wg_0 wg_1 wg_2) (mv_fc (nS_aload_n dX0_init_4 rfl) (mv_fc (nS_bipush dX0_init_5 (by decide +kernel) (by decide)) (mv_fc (nS_newI dX0_init_7 (by decide) rfl rfl rfl (by decide) wg_3) (mv_fc (nS_putr dX0_init_9 mc_X0 (k := 0) (by decide) rfl wg_4 rfl rfl (tyX0_ok 0 (by decide)) (fun _ => rfl) (fun _ => rfl)) (mv_fc (nS_ret dX0_init_12) (mv_fn)))))))
abbrev E_X0_init (G : mg_G) (t j : Nat) (Q : mg_G → Prop) : Prop := mg_Ev 0 1 8 yX0_init cX0_init 1 G t j Q
abbrev J_X0_init (Q : mg_G → Prop) : mg_K := mg_J cX0_init 1 RX0 0 1 8 Q
theorem go_X0_init {Q : mg_G → Prop} {pc : Nat} {L : mv_L} {st : List mv_V} {G : mg_G} {nc ns : Nat} (cut : List Nat) (n : Nat) (h : mg_run tb_X0_init cut (J_X0_init Q) Q n pc L st G nc ns) : J_X0_init Q pc L st G nc ns := mg_run_J ts_X0_init n pc L st G nc ns h
theorem ev_X0_init {Q : mg_G → Prop} {G : mg_G} {t j : Nat} (h : (t, j) ∈ G.1 → mv_ent [.inr (t, j)] 1 (fun L => J_X0_init Q 0 L [] G 0 0)) : E_X0_init G t j Q := mg_ev (y := yX0_init) (by decide +kernel) rfl h
def tb_X5_init : List (Nat × mg_O) := [(0, ng_aload 0 1), (1, ng_obj 4), (4, ng_ret 0 0)]
theorem ts_X5_init : ∀ x ∈ tb_X5_init, mg_Snd cX5_init 1 RX5 0 0 0 x.1 x.2 := mv_fc (nS_aload_n dX5_init_0 rfl) (mv_fc (nS_obj dX5_init_1 wg_5 wg_1 wg_2) (mv_fc (nS_ret dX5_init_4) (mv_fn)))
abbrev E_X5_init (G : mg_G) (t j : Nat) (Q : mg_G → Prop) : Prop := mg_Ev 0 0 0 yX5_init cX5_init 1 G t j Q
abbrev J_X5_init (Q : mg_G → Prop) : mg_K := mg_J cX5_init 1 RX5 0 0 0 Q
theorem go_X5_init {Q : mg_G → Prop} {pc : Nat} {L : mv_L} {st : List mv_V} {G : mg_G} {nc ns : Nat} (cut : List Nat) (n : Nat) (h : mg_run tb_X5_init cut (J_X5_init Q) Q n pc L st G nc ns) : J_X5_init Q pc L st G nc ns := mg_run_J ts_X5_init n pc L st G nc ns h
theorem ev_X5_init {Q : mg_G → Prop} {G : mg_G} {t j : Nat} (h : (t, j) ∈ G.1 → mv_ent [.inr (t, j)] 1 (fun L => J_X5_init Q 0 L [] G 0 0)) : E_X5_init G t j Q := mg_ev (y := yX5_init) (by decide +kernel) rfl h
def tb_X2_init : List (Nat × mg_O) := [(0, ng_aload 0 1), (1, ng_obj 4), (4, ng_aload 0 5), (5, ng_const 200 8), (8, ng_arr 22 200 2 203 10), (10, ng_putr 2 0 13), (13, ng_aload 0 14), (14, ng_const 3 15), (15, ng_arr 23 3 2 203 17), (17, ng_putr 2 1 20), (20, ng_ret 2 203)]
theorem ts_X2_init : ∀ x ∈ tb_X2_init, mg_Snd cX2_init 1 RX2 0 2 203 x.1 x.2 := mv_fc (nS_aload_n dX2_init_0 rfl) (mv_fc (nS_obj dX2_init_1 wg_6 wg_1 wg_2) (mv_fc (nS_aload_n dX2_init_4 rfl) (mv_fc (nS_sipush dX2_init_5 (by decide +kernel) (by decide)) (mv_fc (nS_newI dX2_init_8 (by decide) rfl rfl rfl (by decide) wg_3) (mv_fc (nS_putr dX2_init_10 mc_X2 (k := 0) (by decide) rfl wg_7 rfl rfl (tyX2_ok 0 (by decide)) (fun _ => rfl) (fun _ => rfl)) (mv_fc (nS_aload_n dX2_init_13 rfl) (mv_fc (nS_iconst dX2_init_14 (by decide)) (mv_fc (nS_newI dX2_init_15 (by decide) rfl rfl rfl (by decide) wg_3) (mv_fc (nS_putr dX2_init_17 mc_X2 (k := 1) (by decide) rfl wg_8 rfl rfl (tyX2_ok 1 (by decide)) (fun _ => rfl) (fun _ => rfl)) (mv_fc (nS_ret dX2_init_20) (mv_fn)))))))))))
abbrev E_X2_init (G : mg_G) (t j : Nat) (Q : mg_G → Prop) : Prop := mg_Ev 0 2 203 yX2_init cX2_init 1 G t j Q
abbrev J_X2_init (Q : mg_G → Prop) : mg_K := mg_J cX2_init 1 RX2 0 2 203 Q
theorem go_X2_init {Q : mg_G → Prop} {pc : Nat} {L : mv_L} {st : List mv_V} {G : mg_G} {nc ns : Nat} (cut : List Nat) (n : Nat) (h : mg_run tb_X2_init cut (J_X2_init Q) Q n pc L st G nc ns) : J_X2_init Q pc L st G nc ns := mg_run_J ts_X2_init n pc L st G nc ns h
theorem ev_X2_init {Q : mg_G → Prop} {G : mg_G} {t j : Nat} (h : (t, j) ∈ G.1 → mv_ent [.inr (t, j)] 1 (fun L => J_X2_init Q 0 L [] G 0 0)) : E_X2_init G t j Q := mg_ev (y := yX2_init) (by decide +kernel) rfl h
def tb_X8_init : List (Nat × mg_O) := [(0, ng_aload 0 1), (1, ng_obj 4), (4, ng_aload 0 5), (5, ng_const 140 8), (8, ng_arr 19 140 1 140 10), (10, ng_putr 8 0 13), (13, ng_ret 1 140)]
theorem ts_X8_init : ∀ x ∈ tb_X8_init, mg_Snd cX8_init 1 RX8 0 1 140 x.1 x.2 := mv_fc (nS_aload_n dX8_init_0 rfl) (mv_fc (nS_obj dX8_init_1 wg_9 wg_1 wg_2) (mv_fc (nS_aload_n dX8_init_4 rfl) (mv_fc (nS_sipush dX8_init_5 (by decide +kernel) (by decide)) (mv_fc (nS_newI dX8_init_8 (by decide) rfl rfl rfl (by decide) wg_3) (mv_fc (nS_putr dX8_init_10 mc_X8 (k := 0) (by decide) rfl wg_10 rfl rfl (tyX8_ok 0 (by decide)) (fun _ => rfl) (fun _ => rfl)) (mv_fc (nS_ret dX8_init_13) (mv_fn)))))))
abbrev E_X8_init (G : mg_G) (t j : Nat) (Q : mg_G → Prop) : Prop := mg_Ev 0 1 140 yX8_init cX8_init 1 G t j Q
abbrev J_X8_init (Q : mg_G → Prop) : mg_K := mg_J cX8_init 1 RX8 0 1 140 Q
theorem go_X8_init {Q : mg_G → Prop} {pc : Nat} {L : mv_L} {st : List mv_V} {G : mg_G} {nc ns : Nat} (cut : List Nat) (n : Nat) (h : mg_run tb_X8_init cut (J_X8_init Q) Q n pc L st G nc ns) : J_X8_init Q pc L st G nc ns := mg_run_J ts_X8_init n pc L st G nc ns h
theorem ev_X8_init {Q : mg_G → Prop} {G : mg_G} {t j : Nat} (h : (t, j) ∈ G.1 → mv_ent [.inr (t, j)] 1 (fun L => J_X8_init Q 0 L [] G 0 0)) : E_X8_init G t j Q := mg_ev (y := yX8_init) (by decide +kernel) rfl h
def tb_X1_init : List (Nat × mg_O) := [(0, ng_aload 0 1), (1, ng_obj 4), (4, ng_aload 0 5), (5, ng_const 6 7), (7, ng_arr 12 6 23 153 10), (10, ng_putr 1 0 13), (13, ng_aload 0 14), (14, ng_const 8 16), (16, ng_arr 13 8 23 153 19), (19, ng_putr 1 1 22), (22, ng_aload 0 23), (23, ng_const 3 24), (24, ng_arr 14 3 23 153 26), (26, ng_putr 1 2 29), (29, ng_const 0 30), (30, ng_istore 1 31), (31, ng_iload 1 32), (32, ng_const 6 34), (34, ng_cge 56 37), (37, ng_aload 0 38), (38, ng_getr 1 0 12 41), (41, ng_iload 1 42), (42, ng_new 0 4 23 153 45), (45, ng_dup 46), (46, ng_init 0 1 8 yX0_init cX0_init 1 0 23 153 49), (49, ng_aast 12 0 6 50), (50, ng_iinc 1 1 53), (53, ng_goto 31), (56, ng_const 0 57), (57, ng_istore 1 58), (58, ng_iload 1 59), (59, ng_const 8 61), (61, ng_cge 83 64), (64, ng_aload 0 65), (65, ng_getr 1 1 13 68), (68, ng_iload 1 69), (69, ng_new 5 8 23 153 72), (72, ng_dup 73), (73, ng_init 0 0 0 yX5_init cX5_init 1 5 23 153 76), (76, ng_aast 13 5 8 77), (77, ng_iinc 1 1 80), (80, ng_goto 58), (83, ng_aload 0 84), (84, ng_getr 1 2 14 87), (87, ng_const 0 88), (88, ng_const 3 89), (89, ng_iast 14 3 90), (90, ng_aload 0 91), (91, ng_getr 1 2 14 94), (94, ng_const 1 95), (95, ng_const 12 97), (97, ng_iast 14 3 98), (98, ng_aload 0 99), (99, ng_getr 1 2 14 102), (102, ng_const 2 103), (103, ng_const 2 104), (104, ng_iast 14 3 105), (105, ng_ret 23 153)]
theorem ts_X1_init : ∀ x ∈ tb_X1_init, mg_Snd cX1_init 2 RX1 1 23 153 x.1 x.2 := mv_fc (nS_aload_n dX1_init_0 rfl) (mv_fc (nS_obj dX1_init_1 wg_11 wg_1 wg_2) (mv_fc (nS_aload_n dX1_init_4 rfl) (mv_fc (nS_bipush dX1_init_5 (by decide +kernel) (by decide)) (mv_fc (nS_newA (i := 2) dX1_init_7 (by decide) rfl rfl (by decide) rfl rfl (by decide) wg_12 (by decide)) (mv_fc (nS_putr dX1_init_10 mc_X1 (k := 0) (by decide) rfl wg_13 rfl rfl (tyX1_ok 0 (by decide)) (fun _ => rfl) (fun _ => rfl)) (mv_fc (nS_aload_n dX1_init_13 rfl) (mv_fc (nS_bipush dX1_init_14 (by decide +kernel) (by decide)) (mv_fc (nS_newA (i := 3) dX1_init_16 (by decide) rfl rfl (by decide) rfl rfl (by decide) wg_14 (by decide)) (mv_fc (nS_putr dX1_init_19 mc_X1 (k := 1) (by decide) rfl wg_15 rfl rfl (tyX1_ok 1 (by decide)) (fun _ => rfl) (fun _ => rfl)) (mv_fc (nS_aload_n dX1_init_22 rfl) (mv_fc (nS_iconst dX1_init_23 (by decide)) (mv_fc (nS_newI dX1_init_24 (by decide) rfl rfl rfl (by decide) wg_3) (mv_fc (nS_putr dX1_init_26 mc_X1 (k := 2) (by decide) rfl wg_16 rfl rfl (tyX1_ok 2 (by decide)) (fun _ => rfl) (fun _ => rfl)) (mv_fc (nS_iconst dX1_init_29 (by decide)) (mv_fc (nS_istore_n dX1_init_30 rfl) (mv_fc (nS_iload_n dX1_init_31 rfl) (mv_fc (nS_bipush dX1_init_32 (by decide +kernel) (by decide)) (mv_fc (nS_cge dX1_init_34 (by decide)) (mv_fc (nS_aload_n dX1_init_37 rfl) (mv_fc (nS_getr dX1_init_38 mc_X1 (k := 0) (by decide) rfl wg_13) (mv_fc (nS_iload_n dX1_init_41 rfl) (mv_fc (nS_new dX1_init_42 mc_X0 wg_12 wg_17 wg_18 nd_X0) (mv_fc (nS_dup dX1_init_45) (mv_fc (nS_initN dX1_init_46 (by decide +kernel) wg_19 rfl yk_X0_init (by decide)) (mv_fc (nS_aast (i0 := 2) dX1_init_49 (by decide) rfl rfl (by decide) rfl rfl (by decide) mc_X0) (mv_fc (nS_iinc dX1_init_50) (mv_fc (nS_goto dX1_init_53 (by decide)) (mv_fc (nS_iconst dX1_init_56 (by decide)) (mv_fc (nS_istore_n dX1_init_57 rfl) (mv_fc (nS_iload_n dX1_init_58 rfl) (mv_fc (nS_bipush dX1_init_59 (by decide +kernel) (by decide)) (mv_fc (nS_cge dX1_init_61 (by decide)) (mv_fc (nS_aload_n dX1_init_64 rfl) (mv_fc (nS_getr dX1_init_65 mc_X1 (k := 1) (by decide) rfl wg_15) (mv_fc (nS_iload_n dX1_init_68 rfl) (mv_fc (nS_new dX1_init_69 mc_X5 wg_14 wg_20 wg_21 nd_X5) (mv_fc (nS_dup dX1_init_72) (mv_fc (nS_initN dX1_init_73 (by decide +kernel) wg_22 rfl yk_X5_init (by decide)) (mv_fc (nS_aast (i0 := 3) dX1_init_76 (by decide) rfl rfl (by decide) rfl rfl (by decide) mc_X5) (mv_fc (nS_iinc dX1_init_77) (mv_fc (nS_goto dX1_init_80 (by decide)) (mv_fc (nS_aload_n dX1_init_83 rfl) (mv_fc (nS_getr dX1_init_84 mc_X1 (k := 2) (by decide) rfl wg_16) (mv_fc (nS_iconst dX1_init_87 (by decide)) (mv_fc (nS_iconst dX1_init_88 (by decide)) (mv_fc (nS_iast dX1_init_89 (by decide) rfl rfl rfl (by decide)) (mv_fc (nS_aload_n dX1_init_90 rfl) (mv_fc (nS_getr dX1_init_91 mc_X1 (k := 2) (by decide) rfl wg_16) (mv_fc (nS_iconst dX1_init_94 (by decide)) (mv_fc (nS_bipush dX1_init_95 (by decide +kernel) (by decide)) (mv_fc (nS_iast dX1_init_97 (by decide) rfl rfl rfl (by decide)) (mv_fc (nS_aload_n dX1_init_98 rfl) (mv_fc (nS_getr dX1_init_99 mc_X1 (k := 2) (by decide) rfl wg_16) (mv_fc (nS_iconst dX1_init_102 (by decide)) (mv_fc (nS_iconst dX1_init_103 (by decide)) (mv_fc (nS_iast dX1_init_104 (by decide) rfl rfl rfl (by decide)) (mv_fc (nS_ret dX1_init_105) (mv_fn))))))))))))))))))))))))))))))))))))))))))))))))))))))))))
abbrev E_X1_init (G : mg_G) (t j : Nat) (Q : mg_G → Prop) : Prop := mg_Ev 1 23 153 yX1_init cX1_init 2 G t j Q
abbrev J_X1_init (Q : mg_G → Prop) : mg_K := mg_J cX1_init 2 RX1 1 23 153 Q
theorem go_X1_init {Q : mg_G → Prop} {pc : Nat} {L : mv_L} {st : List mv_V} {G : mg_G} {nc ns : Nat} (cut : List Nat) (n : Nat) (h : mg_run tb_X1_init cut (J_X1_init Q) Q n pc L st G nc ns) : J_X1_init Q pc L st G nc ns := mg_run_J ts_X1_init n pc L st G nc ns h
theorem ev_X1_init {Q : mg_G → Prop} {G : mg_G} {t j : Nat} (h : (t, j) ∈ G.1 → mv_ent [.inr (t, j)] 2 (fun L => J_X1_init Q 0 L [] G 0 0)) : E_X1_init G t j Q := mg_ev (y := yX1_init) (by decide +kernel) rfl h
def tb_X4_init : List (Nat × mg_O) := [(0, ng_aload 0 1), (1, ng_obj 4), (4, ng_aload 0 5), (5, ng_const 360 8), (8, ng_arr 20 360 20 1614 10), (10, ng_putr 4 0 13), (13, ng_aload 0 14), (14, ng_const 6 16), (16, ng_arr 21 6 20 1614 19), (19, ng_putr 4 1 22), (22, ng_const 0 23), (23, ng_istore 1 24), (24, ng_iload 1 25), (25, ng_const 6 27), (27, ng_cge 49 30), (30, ng_aload 0 31), (31, ng_getr 4 1 21 34), (34, ng_iload 1 35), (35, ng_new 2 5 20 1614 38), (38, ng_dup 39), (39, ng_init 0 2 203 yX2_init cX2_init 1 2 20 1614 42), (42, ng_aast 21 2 6 43), (43, ng_iinc 1 1 46), (46, ng_goto 24), (49, ng_ret 20 1614)]
theorem ts_X4_init : ∀ x ∈ tb_X4_init, mg_Snd cX4_init 2 RX4 1 20 1614 x.1 x.2 := mv_fc (nS_aload_n dX4_init_0 rfl) (mv_fc (nS_obj dX4_init_1 wg_23 wg_1 wg_2) (mv_fc (nS_aload_n dX4_init_4 rfl) (mv_fc (nS_sipush dX4_init_5 (by decide +kernel) (by decide)) (mv_fc (nS_newI dX4_init_8 (by decide) rfl rfl rfl (by decide) wg_3) (mv_fc (nS_putr dX4_init_10 mc_X4 (k := 0) (by decide) rfl wg_24 rfl rfl (tyX4_ok 0 (by decide)) (fun _ => rfl) (fun _ => rfl)) (mv_fc (nS_aload_n dX4_init_13 rfl) (mv_fc (nS_bipush dX4_init_14 (by decide +kernel) (by decide)) (mv_fc (nS_newA (i := 6) dX4_init_16 (by decide) rfl rfl (by decide) rfl rfl (by decide) wg_25 (by decide)) (mv_fc (nS_putr dX4_init_19 mc_X4 (k := 1) (by decide) rfl wg_26 rfl rfl (tyX4_ok 1 (by decide)) (fun _ => rfl) (fun _ => rfl)) (mv_fc (nS_iconst dX4_init_22 (by decide)) (mv_fc (nS_istore_n dX4_init_23 rfl) (mv_fc (nS_iload_n dX4_init_24 rfl) (mv_fc (nS_bipush dX4_init_25 (by decide +kernel) (by decide)) (mv_fc (nS_cge dX4_init_27 (by decide)) (mv_fc (nS_aload_n dX4_init_30 rfl) (mv_fc (nS_getr dX4_init_31 mc_X4 (k := 1) (by decide) rfl wg_26) (mv_fc (nS_iload_n dX4_init_34 rfl) (mv_fc (nS_new dX4_init_35 mc_X2 wg_25 wg_27 wg_28 nd_X2) (mv_fc (nS_dup dX4_init_38) (mv_fc (nS_initN dX4_init_39 (by decide +kernel) wg_29 rfl yk_X2_init (by decide)) (mv_fc (nS_aast (i0 := 6) dX4_init_42 (by decide) rfl rfl (by decide) rfl rfl (by decide) mc_X2) (mv_fc (nS_iinc dX4_init_43) (mv_fc (nS_goto dX4_init_46 (by decide)) (mv_fc (nS_ret dX4_init_49) (mv_fn)))))))))))))))))))))))))
abbrev E_X4_init (G : mg_G) (t j : Nat) (Q : mg_G → Prop) : Prop := mg_Ev 1 20 1614 yX4_init cX4_init 2 G t j Q
abbrev J_X4_init (Q : mg_G → Prop) : mg_K := mg_J cX4_init 2 RX4 1 20 1614 Q
theorem go_X4_init {Q : mg_G → Prop} {pc : Nat} {L : mv_L} {st : List mv_V} {G : mg_G} {nc ns : Nat} (cut : List Nat) (n : Nat) (h : mg_run tb_X4_init cut (J_X4_init Q) Q n pc L st G nc ns) : J_X4_init Q pc L st G nc ns := mg_run_J ts_X4_init n pc L st G nc ns h
theorem ev_X4_init {Q : mg_G → Prop} {G : mg_G} {t j : Nat} (h : (t, j) ∈ G.1 → mv_ent [.inr (t, j)] 2 (fun L => J_X4_init Q 0 L [] G 0 0)) : E_X4_init G t j Q := mg_ev (y := yX4_init) (by decide +kernel) rfl h
def tb_X7_init : List (Nat × mg_O) := [(0, ng_aload 0 1), (1, ng_obj 4), (4, ng_aload 0 5), (5, ng_new 1 5 74 478 8), (8, ng_dup 9), (9, ng_init 1 23 153 yX1_init cX1_init 2 1 74 478 12), (12, ng_putr 7 0 15), (15, ng_aload 0 16), (16, ng_const 2 17), (17, ng_arr 16 2 74 478 20), (20, ng_putr 7 1 23), (23, ng_aload 0 24), (24, ng_const 2 25), (25, ng_arr 17 2 74 478 27), (27, ng_putr 7 2 30), (30, ng_const 0 31), (31, ng_istore 1 32), (32, ng_iload 1 33), (33, ng_const 2 34), (34, ng_cge 56 37), (37, ng_aload 0 38), (38, ng_getr 7 1 16 41), (41, ng_iload 1 42), (42, ng_new 1 5 74 478 45), (45, ng_dup 46), (46, ng_init 1 23 153 yX1_init cX1_init 2 1 74 478 49), (49, ng_aast 16 1 2 50), (50, ng_iinc 1 1 53), (53, ng_goto 32), (56, ng_ret 74 478)]
theorem ts_X7_init : ∀ x ∈ tb_X7_init, mg_Snd cX7_init 2 RX7 2 74 478 x.1 x.2 := mv_fc (nS_aload_n dX7_init_0 rfl) (mv_fc (nS_obj dX7_init_1 wg_30 wg_1 wg_2) (mv_fc (nS_aload_n dX7_init_4 rfl) (mv_fc (nS_new dX7_init_5 mc_X1 wg_31 wg_32 wg_33 nd_X1) (mv_fc (nS_dup dX7_init_8) (mv_fc (nS_init dX7_init_9 wg_35 wg_34 rfl yk_X1_init (by decide)) (mv_fc (nS_putr dX7_init_12 mc_X7 (k := 0) (by decide) rfl wg_36 rfl rfl (tyX7_ok 0 (by decide)) (fun _ => rfl) (fun _ => rfl)) (mv_fc (nS_aload_n dX7_init_15 rfl) (mv_fc (nS_iconst dX7_init_16 (by decide)) (mv_fc (nS_newA (i := 4) dX7_init_17 (by decide) rfl rfl (by decide) rfl rfl (by decide) wg_31 (by decide)) (mv_fc (nS_putr dX7_init_20 mc_X7 (k := 1) (by decide) rfl wg_37 rfl rfl (tyX7_ok 1 (by decide)) (fun _ => rfl) (fun _ => rfl)) (mv_fc (nS_aload_n dX7_init_23 rfl) (mv_fc (nS_iconst dX7_init_24 (by decide)) (mv_fc (nS_newZ dX7_init_25 (by decide) rfl rfl rfl (by decide) wg_38) (mv_fc (nS_putr dX7_init_27 mc_X7 (k := 2) (by decide) rfl wg_39 rfl rfl (tyX7_ok 2 (by decide)) (fun _ => rfl) (fun _ => rfl)) (mv_fc (nS_iconst dX7_init_30 (by decide)) (mv_fc (nS_istore_n dX7_init_31 rfl) (mv_fc (nS_iload_n dX7_init_32 rfl) (mv_fc (nS_iconst dX7_init_33 (by decide)) (mv_fc (nS_cge dX7_init_34 (by decide)) (mv_fc (nS_aload_n dX7_init_37 rfl) (mv_fc (nS_getr dX7_init_38 mc_X7 (k := 1) (by decide) rfl wg_37) (mv_fc (nS_iload_n dX7_init_41 rfl) (mv_fc (nS_new dX7_init_42 mc_X1 wg_31 wg_32 wg_33 nd_X1) (mv_fc (nS_dup dX7_init_45) (mv_fc (nS_init dX7_init_46 wg_35 wg_34 rfl yk_X1_init (by decide)) (mv_fc (nS_aast (i0 := 4) dX7_init_49 (by decide) rfl rfl (by decide) rfl rfl (by decide) mc_X1) (mv_fc (nS_iinc dX7_init_50) (mv_fc (nS_goto dX7_init_53 (by decide)) (mv_fc (nS_ret dX7_init_56) (mv_fn))))))))))))))))))))))))))))))
abbrev E_X7_init (G : mg_G) (t j : Nat) (Q : mg_G → Prop) : Prop := mg_Ev 2 74 478 yX7_init cX7_init 2 G t j Q
abbrev J_X7_init (Q : mg_G → Prop) : mg_K := mg_J cX7_init 2 RX7 2 74 478 Q
theorem go_X7_init {Q : mg_G → Prop} {pc : Nat} {L : mv_L} {st : List mv_V} {G : mg_G} {nc ns : Nat} (cut : List Nat) (n : Nat) (h : mg_run tb_X7_init cut (J_X7_init Q) Q n pc L st G nc ns) : J_X7_init Q pc L st G nc ns := mg_run_J ts_X7_init n pc L st G nc ns h
theorem ev_X7_init {Q : mg_G → Prop} {G : mg_G} {t j : Nat} (h : (t, j) ∈ G.1 → mv_ent [.inr (t, j)] 2 (fun L => J_X7_init Q 0 L [] G 0 0)) : E_X7_init G t j Q := mg_ev (y := yX7_init) (by decide +kernel) rfl h
def tb_X3_init : List (Nat × mg_O) := [(0, ng_aload 0 1), (1, ng_obj 4), (4, ng_aload 0 5), (5, ng_const 5 6), (6, ng_arr 18 5 376 2410 9), (9, ng_putr 3 0 12), (12, ng_const 0 13), (13, ng_istore 1 14), (14, ng_iload 1 15), (15, ng_const 5 16), (16, ng_cge 38 19), (19, ng_aload 0 20), (20, ng_getr 3 0 18 23), (23, ng_iload 1 24), (24, ng_new 7 3 376 2410 27), (27, ng_dup 28), (28, ng_init 2 74 478 yX7_init cX7_init 2 7 376 2410 31), (31, ng_aast 18 7 5 32), (32, ng_iinc 1 1 35), (35, ng_goto 14), (38, ng_ret 376 2410)]
theorem ts_X3_init : ∀ x ∈ tb_X3_init, mg_Snd cX3_init 2 RX3 3 376 2410 x.1 x.2 := mv_fc (nS_aload_n dX3_init_0 rfl) (mv_fc (nS_obj dX3_init_1 wg_40 wg_1 wg_2) (mv_fc (nS_aload_n dX3_init_4 rfl) (mv_fc (nS_iconst dX3_init_5 (by decide)) (mv_fc (nS_newA (i := 5) dX3_init_6 (by decide) rfl rfl (by decide) rfl rfl (by decide) wg_41 (by decide)) (mv_fc (nS_putr dX3_init_9 mc_X3 (k := 0) (by decide) rfl wg_42 rfl rfl (tyX3_ok 0 (by decide)) (fun _ => rfl) (fun _ => rfl)) (mv_fc (nS_iconst dX3_init_12 (by decide)) (mv_fc (nS_istore_n dX3_init_13 rfl) (mv_fc (nS_iload_n dX3_init_14 rfl) (mv_fc (nS_iconst dX3_init_15 (by decide)) (mv_fc (nS_cge dX3_init_16 (by decide)) (mv_fc (nS_aload_n dX3_init_19 rfl) (mv_fc (nS_getr dX3_init_20 mc_X3 (k := 0) (by decide) rfl wg_42) (mv_fc (nS_iload_n dX3_init_23 rfl) (mv_fc (nS_new dX3_init_24 mc_X7 wg_41 wg_43 wg_44 nd_X7) (mv_fc (nS_dup dX3_init_27) (mv_fc (nS_init dX3_init_28 wg_46 wg_45 rfl yk_X7_init (by decide)) (mv_fc (nS_aast (i0 := 5) dX3_init_31 (by decide) rfl rfl (by decide) rfl rfl (by decide) mc_X7) (mv_fc (nS_iinc dX3_init_32) (mv_fc (nS_goto dX3_init_35 (by decide)) (mv_fc (nS_ret dX3_init_38) (mv_fn)))))))))))))))))))))
abbrev E_X3_init (G : mg_G) (t j : Nat) (Q : mg_G → Prop) : Prop := mg_Ev 3 376 2410 yX3_init cX3_init 2 G t j Q
abbrev J_X3_init (Q : mg_G → Prop) : mg_K := mg_J cX3_init 2 RX3 3 376 2410 Q
theorem go_X3_init {Q : mg_G → Prop} {pc : Nat} {L : mv_L} {st : List mv_V} {G : mg_G} {nc ns : Nat} (cut : List Nat) (n : Nat) (h : mg_run tb_X3_init cut (J_X3_init Q) Q n pc L st G nc ns) : J_X3_init Q pc L st G nc ns := mg_run_J ts_X3_init n pc L st G nc ns h
theorem ev_X3_init {Q : mg_G → Prop} {G : mg_G} {t j : Nat} (h : (t, j) ∈ G.1 → mv_ent [.inr (t, j)] 2 (fun L => J_X3_init Q 0 L [] G 0 0)) : E_X3_init G t j Q := mg_ev (y := yX3_init) (by decide +kernel) rfl h
def tb_X9_init : List (Nat × mg_O) := [(0, ng_aload 0 1), (1, ng_obj 4), (4, ng_aload 0 5), (5, ng_new 1 5 66 3392 8), (8, ng_dup 9), (9, ng_init 1 23 153 yX1_init cX1_init 2 1 66 3392 12), (12, ng_putr 9 0 15), (15, ng_aload 0 16), (16, ng_new 4 3 66 3392 19), (19, ng_dup 20), (20, ng_init 1 20 1614 yX4_init cX4_init 2 4 66 3392 23), (23, ng_putr 9 1 26), (26, ng_aload 0 27), (27, ng_new 4 3 66 3392 30), (30, ng_dup 31), (31, ng_init 1 20 1614 yX4_init cX4_init 2 4 66 3392 34), (34, ng_putr 9 2 37), (37, ng_ret 66 3392)]
theorem ts_X9_init : ∀ x ∈ tb_X9_init, mg_Snd cX9_init 1 RX9 2 66 3392 x.1 x.2 := mv_fc (nS_aload_n dX9_init_0 rfl) (mv_fc (nS_obj dX9_init_1 wg_47 wg_1 wg_2) (mv_fc (nS_aload_n dX9_init_4 rfl) (mv_fc (nS_new dX9_init_5 mc_X1 wg_48 wg_32 wg_33 nd_X1) (mv_fc (nS_dup dX9_init_8) (mv_fc (nS_init dX9_init_9 wg_49 wg_34 rfl yk_X1_init (by decide)) (mv_fc (nS_putr dX9_init_12 mc_X9 (k := 0) (by decide) rfl wg_50 rfl rfl (tyX9_ok 0 (by decide)) (fun _ => rfl) (fun _ => rfl)) (mv_fc (nS_aload_n dX9_init_15 rfl) (mv_fc (nS_new dX9_init_16 mc_X4 wg_51 wg_52 wg_53 nd_X4) (mv_fc (nS_dup dX9_init_19) (mv_fc (nS_init dX9_init_20 wg_55 wg_54 rfl yk_X4_init (by decide)) (mv_fc (nS_putr dX9_init_23 mc_X9 (k := 1) (by decide) rfl wg_56 rfl rfl (tyX9_ok 1 (by decide)) (fun _ => rfl) (fun _ => rfl)) (mv_fc (nS_aload_n dX9_init_26 rfl) (mv_fc (nS_new dX9_init_27 mc_X4 wg_51 wg_52 wg_53 nd_X4) (mv_fc (nS_dup dX9_init_30) (mv_fc (nS_init dX9_init_31 wg_55 wg_54 rfl yk_X4_init (by decide)) (mv_fc (nS_putr dX9_init_34 mc_X9 (k := 2) (by decide) rfl wg_57 rfl rfl (tyX9_ok 2 (by decide)) (fun _ => rfl) (fun _ => rfl)) (mv_fc (nS_ret dX9_init_37) (mv_fn))))))))))))))))))
abbrev E_X9_init (G : mg_G) (t j : Nat) (Q : mg_G → Prop) : Prop := mg_Ev 2 66 3392 yX9_init cX9_init 1 G t j Q
abbrev J_X9_init (Q : mg_G → Prop) : mg_K := mg_J cX9_init 1 RX9 2 66 3392 Q
theorem go_X9_init {Q : mg_G → Prop} {pc : Nat} {L : mv_L} {st : List mv_V} {G : mg_G} {nc ns : Nat} (cut : List Nat) (n : Nat) (h : mg_run tb_X9_init cut (J_X9_init Q) Q n pc L st G nc ns) : J_X9_init Q pc L st G nc ns := mg_run_J ts_X9_init n pc L st G nc ns h
theorem ev_X9_init {Q : mg_G → Prop} {G : mg_G} {t j : Nat} (h : (t, j) ∈ G.1 → mv_ent [.inr (t, j)] 1 (fun L => J_X9_init Q 0 L [] G 0 0)) : E_X9_init G t j Q := mg_ev (y := yX9_init) (by decide +kernel) rfl h
def tb_X6_init : List (Nat × mg_O) := [(0, ng_aload 0 1), (1, ng_obj 4), (4, ng_aload 0 5), (5, ng_new 8 2 26 300 8), (8, ng_dup 9), (9, ng_init 0 1 140 yX8_init cX8_init 1 8 26 300 12), (12, ng_putr 6 0 15), (15, ng_aload 0 16), (16, ng_new 1 5 26 300 19), (19, ng_dup 20), (20, ng_init 1 23 153 yX1_init cX1_init 2 1 26 300 23), (23, ng_putr 6 1 26), (26, ng_aload 0 27), (27, ng_const (-1) 28), (28, ng_puti 6 3 31), (31, ng_ret 26 300)]
theorem ts_X6_init : ∀ x ∈ tb_X6_init, mg_Snd cX6_init 1 RX6 2 26 300 x.1 x.2 := mv_fc (nS_aload_n dX6_init_0 rfl) (mv_fc (nS_obj dX6_init_1 wg_58 wg_1 wg_2) (mv_fc (nS_aload_n dX6_init_4 rfl) (mv_fc (nS_new dX6_init_5 mc_X8 wg_59 wg_60 wg_61 nd_X8) (mv_fc (nS_dup dX6_init_8) (mv_fc (nS_initN dX6_init_9 (by decide +kernel) wg_62 rfl yk_X8_init (by decide)) (mv_fc (nS_putr dX6_init_12 mc_X6 (k := 0) (by decide) rfl wg_63 rfl rfl (tyX6_ok 0 (by decide)) (fun _ => rfl) (fun _ => rfl)) (mv_fc (nS_aload_n dX6_init_15 rfl) (mv_fc (nS_new dX6_init_16 mc_X1 wg_64 wg_32 wg_33 nd_X1) (mv_fc (nS_dup dX6_init_19) (mv_fc (nS_init dX6_init_20 wg_65 wg_34 rfl yk_X1_init (by decide)) (mv_fc (nS_putr dX6_init_23 mc_X6 (k := 1) (by decide) rfl wg_66 rfl rfl (tyX6_ok 1 (by decide)) (fun _ => rfl) (fun _ => rfl)) (mv_fc (nS_aload_n dX6_init_26 rfl) (mv_fc (nS_iconst dX6_init_27 (by decide)) (mv_fc (nS_puti dX6_init_28 mc_X6 (k := 3) (by decide) rfl wg_67 rfl (by decide +kernel)) (mv_fc (nS_ret dX6_init_31) (mv_fn))))))))))))))))
abbrev E_X6_init (G : mg_G) (t j : Nat) (Q : mg_G → Prop) : Prop := mg_Ev 2 26 300 yX6_init cX6_init 1 G t j Q
abbrev J_X6_init (Q : mg_G → Prop) : mg_K := mg_J cX6_init 1 RX6 2 26 300 Q
theorem go_X6_init {Q : mg_G → Prop} {pc : Nat} {L : mv_L} {st : List mv_V} {G : mg_G} {nc ns : Nat} (cut : List Nat) (n : Nat) (h : mg_run tb_X6_init cut (J_X6_init Q) Q n pc L st G nc ns) : J_X6_init Q pc L st G nc ns := mg_run_J ts_X6_init n pc L st G nc ns h
theorem ev_X6_init {Q : mg_G → Prop} {G : mg_G} {t j : Nat} (h : (t, j) ∈ G.1 → mv_ent [.inr (t, j)] 1 (fun L => J_X6_init Q 0 L [] G 0 0)) : E_X6_init G t j Q := mg_ev (y := yX6_init) (by decide +kernel) rfl h
def tb_X10_init : List (Nat × mg_O) := [(0, ng_aload 0 1), (1, ng_obj 4), (4, ng_aload 0 5), (5, ng_new 7 3 567 8213 8), (8, ng_dup 9), (9, ng_init 2 74 478 yX7_init cX7_init 2 7 567 8213 12), (12, ng_putr 10 0 15), (15, ng_aload 0 16), (16, ng_new 3 2 567 8213 19), (19, ng_dup 20), (20, ng_init 3 376 2410 yX3_init cX3_init 2 3 567 8213 23), (23, ng_putr 10 1 26), (26, ng_aload 0 27), (27, ng_new 6 5 567 8213 30), (30, ng_dup 31), (31, ng_init 2 26 300 yX6_init cX6_init 1 6 567 8213 34), (34, ng_putr 10 2 37), (37, ng_aload 0 38), (38, ng_aload 0 39), (39, ng_getr 10 2 6 42), (42, ng_getr 6 0 8 45), (45, ng_putr 10 3 48), (48, ng_aload 0 49), (49, ng_new 9 6 567 8213 52), (52, ng_dup 53), (53, ng_init 2 66 3392 yX9_init cX9_init 1 9 567 8213 56), (56, ng_putr 10 4 59), (59, ng_aload 0 60), (60, ng_new 4 3 567 8213 63), (63, ng_dup 64), (64, ng_init 1 20 1614 yX4_init cX4_init 2 4 567 8213 67), (67, ng_putr 10 5 70), (70, ng_aload 0 71), (71, ng_const 1 72), (72, ng_putz 10 6 75), (75, ng_ret 567 8213)]
theorem ts_X10_init : ∀ x ∈ tb_X10_init, mg_Snd cX10_init 1 RX10 4 567 8213 x.1 x.2 := mv_fc (nS_aload_n dX10_init_0 rfl) (mv_fc (nS_obj dX10_init_1 wg_68 wg_1 wg_2) (mv_fc (nS_aload_n dX10_init_4 rfl) (mv_fc (nS_new dX10_init_5 mc_X7 wg_69 wg_43 wg_44 nd_X7) (mv_fc (nS_dup dX10_init_8) (mv_fc (nS_init dX10_init_9 wg_70 wg_45 rfl yk_X7_init (by decide)) (mv_fc (nS_putr dX10_init_12 mc_X10 (k := 0) (by decide) rfl wg_71 rfl rfl (tyX10_ok 0 (by decide)) (fun _ => rfl) (fun _ => rfl)) (mv_fc (nS_aload_n dX10_init_15 rfl) (mv_fc (nS_new dX10_init_16 mc_X3 wg_72 wg_73 wg_74 nd_X3) (mv_fc (nS_dup dX10_init_19) (mv_fc (nS_init dX10_init_20 wg_76 wg_75 rfl yk_X3_init (by decide)) (mv_fc (nS_putr dX10_init_23 mc_X10 (k := 1) (by decide) rfl wg_77 rfl rfl (tyX10_ok 1 (by decide)) (fun _ => rfl) (fun _ => rfl)) (mv_fc (nS_aload_n dX10_init_26 rfl) (mv_fc (nS_new dX10_init_27 mc_X6 wg_78 wg_79 wg_80 nd_X6) (mv_fc (nS_dup dX10_init_30) (mv_fc (nS_initN dX10_init_31 (by decide +kernel) wg_81 rfl yk_X6_init (by decide)) (mv_fc (nS_putr dX10_init_34 mc_X10 (k := 2) (by decide) rfl wg_82 rfl rfl (tyX10_ok 2 (by decide)) (fun _ => rfl) (fun _ => rfl)) (mv_fc (nS_aload_n dX10_init_37 rfl) (mv_fc (nS_aload_n dX10_init_38 rfl) (mv_fc (nS_getr dX10_init_39 mc_X10 (k := 2) (by decide) rfl wg_82) (mv_fc (nS_getr dX10_init_42 mc_X6 (k := 0) (by decide) rfl wg_83) (mv_fc (nS_putr dX10_init_45 mc_X10 (k := 3) (by decide) rfl wg_84 rfl rfl (tyX10_ok 3 (by decide)) (fun _ => rfl) (fun _ => rfl)) (mv_fc (nS_aload_n dX10_init_48 rfl) (mv_fc (nS_new dX10_init_49 mc_X9 wg_85 wg_86 wg_87 nd_X9) (mv_fc (nS_dup dX10_init_52) (mv_fc (nS_initN dX10_init_53 (by decide +kernel) wg_88 rfl yk_X9_init (by decide)) (mv_fc (nS_putr dX10_init_56 mc_X10 (k := 4) (by decide) rfl wg_89 rfl rfl (tyX10_ok 4 (by decide)) (fun _ => rfl) (fun _ => rfl)) (mv_fc (nS_aload_n dX10_init_59 rfl) (mv_fc (nS_new dX10_init_60 mc_X4 wg_90 wg_52 wg_53 nd_X4) (mv_fc (nS_dup dX10_init_63) (mv_fc (nS_init dX10_init_64 wg_91 wg_54 rfl yk_X4_init (by decide)) (mv_fc (nS_putr dX10_init_67 mc_X10 (k := 5) (by decide) rfl wg_92 rfl rfl (tyX10_ok 5 (by decide)) (fun _ => rfl) (fun _ => rfl)) (mv_fc (nS_aload_n dX10_init_70 rfl) (mv_fc (nS_iconst dX10_init_71 (by decide)) (mv_fc (nS_putz dX10_init_72 mc_X10 (k := 6) (by decide) rfl wg_93 rfl (by decide +kernel)) (mv_fc (nS_ret dX10_init_75) (mv_fn))))))))))))))))))))))))))))))))))))
abbrev E_X10_init (G : mg_G) (t j : Nat) (Q : mg_G → Prop) : Prop := mg_Ev 4 567 8213 yX10_init cX10_init 1 G t j Q
abbrev J_X10_init (Q : mg_G → Prop) : mg_K := mg_J cX10_init 1 RX10 4 567 8213 Q
theorem go_X10_init {Q : mg_G → Prop} {pc : Nat} {L : mv_L} {st : List mv_V} {G : mg_G} {nc ns : Nat} (cut : List Nat) (n : Nat) (h : mg_run tb_X10_init cut (J_X10_init Q) Q n pc L st G nc ns) : J_X10_init Q pc L st G nc ns := mg_run_J ts_X10_init n pc L st G nc ns h
theorem ev_X10_init {Q : mg_G → Prop} {G : mg_G} {t j : Nat} (h : (t, j) ∈ G.1 → mv_ent [.inr (t, j)] 1 (fun L => J_X10_init Q 0 L [] G 0 0)) : E_X10_init G t j Q := mg_ev (y := yX10_init) (by decide +kernel) rfl h
