/-! The law's own small methods: low, act. -/
theorem mv_and_b (v c : Int) (n : Nat) (hm : (Int32.ofInt c).toBitVec.msb = false) (hn : (Int32.ofInt c).toBitVec.toNat = n) : 0 ≤ mv_and v c ∧ mv_and v c ≤ (n : Int) := by
  have h : ((Int32.ofInt v &&& Int32.ofInt c).toBitVec).msb = false := by
    rw [Int32.toBitVec_and, BitVec.msb_and, hm, Bool.and_false]
  have e : mv_and v c = (((Int32.ofInt v &&& Int32.ofInt c).toBitVec).toNat : Int) := BitVec.toInt_eq_toNat_of_msb h
  rw [e, Int32.toBitVec_and, BitVec.toNat_and, hn]
  have := Nat.and_le_right (n := (Int32.ofInt v).toBitVec.toNat) (m := n)
  omega
/-- low(v, n) -/
def ql (v n : Int) : Int := mv_and v 2147483647 % n
theorem ql_b {v n : Int} (hn : 0 < n) : 0 ≤ ql v n ∧ ql v n < n := ⟨Int.emod_nonneg _ (by omega), Int.emod_lt_of_pos _ hn⟩
theorem ql_1 {v n : Int} (hn : 0 < n ∧ n ≤ 1000) : -2147483648 ≤ 1 + ql v n ∧ 1 + ql v n ≤ 2147483647 := by
  have := ql_b (v := v) hn.1
  omega
set_option maxRecDepth 100000 in
theorem sp_L_low {v n : Int} {M : mv_M} {Q : mv_R} (hn : 0 < n) (h : Q (some (.inl (ql v n))) M) : E_L_low [.inl v, .inl n] M Q := by
  refine ev_L_low ?_
  refine go_L_low [] 50 ?_
  exact And.intro ⟨(mv_and_b v 2147483647 2147483647 (by decide +kernel) (by decide +kernel)).1, hn⟩ h
/-- act(o, y) -/
noncomputable def qa_act (F : qg_F) (y : Int) : Int × qg_F :=
  if mv_and y 15 = 0 ∨ mv_and y 15 = 1 then op_addArticle F (ql (mv_mulw (mv_shr y 4) 11) 360) (1 + ql (mv_shr y 2) 150) else
  if mv_and y 15 = 2 then op_removeArticle F (ql (mv_shr y 4) 4) else
  if mv_and y 15 = 3 then op_setArticle F (ql (mv_shr y 4) 4) (mv_and (mv_shr y 9) 1) (1 + ql (mv_shr y 3) 120) else
  if mv_and y 15 = 4 ∨ mv_and y 15 = 5 then op_addSentence F (ql (mv_shr y 4) 4) (ql (mv_shr y 4) 60) else
  if mv_and y 15 = 6 ∨ mv_and y 15 = 7 then op_addQuote F (ql (mv_shr y 4) 3) (ql (mv_shr y 6) 3) (1 + ql (mv_shr y 5) 3) (1 + ql (mv_shr y 4) 6) else
  if mv_and y 15 = 8 then op_removeQuote F (ql (mv_shr y 4) 6) else
  if mv_and y 15 = 9 ∨ mv_and y 15 = 10 then op_place F (ql (mv_shr y 4) 5) (ql (mv_shr y 6) 3) (ql (mv_shr y 5) 6) (ql (mv_shr y 3) 20) else
  if mv_and y 15 = 11 then op_lift F (ql (mv_shr y 4) 5) else
  if mv_and y 15 = 12 then op_floatAll F else
  if mv_and y 15 = 13 then op_setRule F (ql (mv_shr y 4) 3) (ql (mv_shr y 5) 12) else
  if mv_and y 15 = 14 then op_take F (ql (mv_shr y 4) 2) else
  op_restore F (ql (mv_shr y 4) 2)
theorem qa_addArticle {F : qg_F} {y : Int} (h : mv_and y 15 = 0 ∨ mv_and y 15 = 1) : qa_act F y = op_addArticle F (ql (mv_mulw (mv_shr y 4) 11) 360) (1 + ql (mv_shr y 2) 150) := by
  unfold qa_act
  rw [if_pos (by omega)]
theorem qa_removeArticle {F : qg_F} {y : Int} (h : mv_and y 15 = 2) : qa_act F y = op_removeArticle F (ql (mv_shr y 4) 4) := by
  unfold qa_act
  rw [if_neg (by omega), if_pos (by omega)]
theorem qa_setArticle {F : qg_F} {y : Int} (h : mv_and y 15 = 3) : qa_act F y = op_setArticle F (ql (mv_shr y 4) 4) (mv_and (mv_shr y 9) 1) (1 + ql (mv_shr y 3) 120) := by
  unfold qa_act
  rw [if_neg (by omega), if_neg (by omega), if_pos (by omega)]
theorem qa_addSentence {F : qg_F} {y : Int} (h : mv_and y 15 = 4 ∨ mv_and y 15 = 5) : qa_act F y = op_addSentence F (ql (mv_shr y 4) 4) (ql (mv_shr y 4) 60) := by
  unfold qa_act
  rw [if_neg (by omega), if_neg (by omega), if_neg (by omega), if_pos (by omega)]
theorem qa_addQuote {F : qg_F} {y : Int} (h : mv_and y 15 = 6 ∨ mv_and y 15 = 7) : qa_act F y = op_addQuote F (ql (mv_shr y 4) 3) (ql (mv_shr y 6) 3) (1 + ql (mv_shr y 5) 3) (1 + ql (mv_shr y 4) 6) := by
  unfold qa_act
  rw [if_neg (by omega), if_neg (by omega), if_neg (by omega), if_neg (by omega), if_pos (by omega)]
theorem qa_removeQuote {F : qg_F} {y : Int} (h : mv_and y 15 = 8) : qa_act F y = op_removeQuote F (ql (mv_shr y 4) 6) := by
  unfold qa_act
  rw [if_neg (by omega), if_neg (by omega), if_neg (by omega), if_neg (by omega), if_neg (by omega), if_pos (by omega)]
theorem qa_place {F : qg_F} {y : Int} (h : mv_and y 15 = 9 ∨ mv_and y 15 = 10) : qa_act F y = op_place F (ql (mv_shr y 4) 5) (ql (mv_shr y 6) 3) (ql (mv_shr y 5) 6) (ql (mv_shr y 3) 20) := by
  unfold qa_act
  rw [if_neg (by omega), if_neg (by omega), if_neg (by omega), if_neg (by omega), if_neg (by omega), if_neg (by omega), if_pos (by omega)]
theorem qa_lift {F : qg_F} {y : Int} (h : mv_and y 15 = 11) : qa_act F y = op_lift F (ql (mv_shr y 4) 5) := by
  unfold qa_act
  rw [if_neg (by omega), if_neg (by omega), if_neg (by omega), if_neg (by omega), if_neg (by omega), if_neg (by omega), if_neg (by omega), if_pos (by omega)]
theorem qa_floatAll {F : qg_F} {y : Int} (h : mv_and y 15 = 12) : qa_act F y = op_floatAll F := by
  unfold qa_act
  rw [if_neg (by omega), if_neg (by omega), if_neg (by omega), if_neg (by omega), if_neg (by omega), if_neg (by omega), if_neg (by omega), if_neg (by omega), if_pos (by omega)]
theorem qa_setRule {F : qg_F} {y : Int} (h : mv_and y 15 = 13) : qa_act F y = op_setRule F (ql (mv_shr y 4) 3) (ql (mv_shr y 5) 12) := by
  unfold qa_act
  rw [if_neg (by omega), if_neg (by omega), if_neg (by omega), if_neg (by omega), if_neg (by omega), if_neg (by omega), if_neg (by omega), if_neg (by omega), if_neg (by omega), if_pos (by omega)]
theorem qa_take {F : qg_F} {y : Int} (h : mv_and y 15 = 14) : qa_act F y = op_take F (ql (mv_shr y 4) 2) := by
  unfold qa_act
  rw [if_neg (by omega), if_neg (by omega), if_neg (by omega), if_neg (by omega), if_neg (by omega), if_neg (by omega), if_neg (by omega), if_neg (by omega), if_neg (by omega), if_neg (by omega), if_pos (by omega)]
theorem qa_restore {F : qg_F} {y : Int} (h : ¬ (0 ≤ mv_and y 15 ∧ mv_and y 15 < 15)) : qa_act F y = op_restore F (ql (mv_shr y 4) 2) := by
  unfold qa_act
  rw [if_neg (by omega), if_neg (by omega), if_neg (by omega), if_neg (by omega), if_neg (by omega), if_neg (by omega), if_neg (by omega), if_neg (by omega), if_neg (by omega), if_neg (by omega), if_neg (by omega)]
set_option maxRecDepth 100000 in
theorem sp_L_act {F : qg_F} {y : Int} {M : mv_M} {Q : mv_R} (hX : qr_X M F) (hw : qg_wF F) (h : ∀ M', qr_X M' (qa_act F y).2 → mv_of1 qf_X M M' → Q (some (.inl (qa_act F y).1)) M') : E_L_act [.inr (10, 0), .inl y] M Q := by
  refine ev_L_act ?_
  refine go_L_act [] 90 ?_
  refine And.intro (fun c => ?_) (And.intro (fun c => ?_) (And.intro (fun c => ?_) (And.intro (fun c => ?_) (And.intro (fun c => ?_) (And.intro (fun c => ?_) (And.intro (fun c => ?_) (And.intro (fun c => ?_) (And.intro (fun c => ?_) (And.intro (fun c => ?_) (And.intro (fun c => ?_) (And.intro (fun c => ?_) (And.intro (fun c => ?_) (And.intro (fun c => ?_) (And.intro (fun c => ?_) (And.intro (fun c => ?_) (trivial))))))))))))))))
  · have c : mv_and y 15 < 0 ∨ 15 ≤ mv_and y 15 := c
    rw [qa_restore (by omega)] at h
    refine sp_L_low (by decide) ?_
    exact sp_X10_restore hX hw h
  · have c : mv_and y 15 = 0 := by omega
    rw [qa_addArticle (by omega)] at h
    refine sp_L_low (by decide) ?_
    refine sp_L_low (by decide) ?_
    refine And.intro (ql_1 (by decide)) ?_
    exact sp_X10_addArticle hX hw h
  · have c : mv_and y 15 = 1 := by omega
    rw [qa_addArticle (by omega)] at h
    refine sp_L_low (by decide) ?_
    refine sp_L_low (by decide) ?_
    refine And.intro (ql_1 (by decide)) ?_
    exact sp_X10_addArticle hX hw h
  · have c : mv_and y 15 = 2 := by omega
    rw [qa_removeArticle (by omega)] at h
    refine sp_L_low (by decide) ?_
    exact sp_X10_removeArticle hX hw h
  · have c : mv_and y 15 = 3 := by omega
    rw [qa_setArticle (by omega)] at h
    refine sp_L_low (by decide) ?_
    refine sp_L_low (by decide) ?_
    refine And.intro (ql_1 (by decide)) ?_
    exact sp_X10_setArticle hX hw h
  · have c : mv_and y 15 = 4 := by omega
    rw [qa_addSentence (by omega)] at h
    refine sp_L_low (by decide) ?_
    refine sp_L_low (by decide) ?_
    exact sp_X10_addSentence hX hw h
  · have c : mv_and y 15 = 5 := by omega
    rw [qa_addSentence (by omega)] at h
    refine sp_L_low (by decide) ?_
    refine sp_L_low (by decide) ?_
    exact sp_X10_addSentence hX hw h
  · have c : mv_and y 15 = 6 := by omega
    rw [qa_addQuote (by omega)] at h
    refine sp_L_low (by decide) ?_
    refine sp_L_low (by decide) ?_
    refine sp_L_low (by decide) ?_
    refine And.intro (ql_1 (by decide)) ?_
    refine sp_L_low (by decide) ?_
    refine And.intro (ql_1 (by decide)) ?_
    exact sp_X10_addQuote hX hw h
  · have c : mv_and y 15 = 7 := by omega
    rw [qa_addQuote (by omega)] at h
    refine sp_L_low (by decide) ?_
    refine sp_L_low (by decide) ?_
    refine sp_L_low (by decide) ?_
    refine And.intro (ql_1 (by decide)) ?_
    refine sp_L_low (by decide) ?_
    refine And.intro (ql_1 (by decide)) ?_
    exact sp_X10_addQuote hX hw h
  · have c : mv_and y 15 = 8 := by omega
    rw [qa_removeQuote (by omega)] at h
    refine sp_L_low (by decide) ?_
    exact sp_X10_removeQuote hX hw h
  · have c : mv_and y 15 = 9 := by omega
    rw [qa_place (by omega)] at h
    refine sp_L_low (by decide) ?_
    refine sp_L_low (by decide) ?_
    refine sp_L_low (by decide) ?_
    refine sp_L_low (by decide) ?_
    exact sp_X10_place hX hw h
  · have c : mv_and y 15 = 10 := by omega
    rw [qa_place (by omega)] at h
    refine sp_L_low (by decide) ?_
    refine sp_L_low (by decide) ?_
    refine sp_L_low (by decide) ?_
    refine sp_L_low (by decide) ?_
    exact sp_X10_place hX hw h
  · have c : mv_and y 15 = 11 := by omega
    rw [qa_lift (by omega)] at h
    refine sp_L_low (by decide) ?_
    exact sp_X10_lift hX hw h
  · have c : mv_and y 15 = 12 := by omega
    rw [qa_floatAll (by omega)] at h
    exact sp_X10_floatAll hX hw h
  · have c : mv_and y 15 = 13 := by omega
    rw [qa_setRule (by omega)] at h
    refine sp_L_low (by decide) ?_
    refine sp_L_low (by decide) ?_
    exact sp_X10_setRule hX hw h
  · have c : mv_and y 15 = 14 := by omega
    rw [qa_take (by omega)] at h
    refine sp_L_low (by decide) ?_
    exact sp_X10_take hX hw h
