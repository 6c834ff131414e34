/-! What act does to the state. -/
/-- an answer below 0 changes nothing; else the state before is recorded -/
def pz_ok (F : qg_F) (r : Int × qg_F) : Prop := (r.1 < 0 ∧ r.2 = F) ∨ (0 ≤ r.1 ∧ r.2.2 = (qg_act F).2)
theorem pz_no {F : qg_F} {z : Int} (hz : z < 0) : pz_ok F (z, F) := Or.inl ⟨hz, rfl⟩
theorem pz_yes {F F' : qg_F} {z : Int} (hz : 0 ≤ z) (h : F'.2 = (qg_act F).2) : pz_ok F (z, F') := Or.inr ⟨hz, h⟩
theorem pz_bal_0 (qs : List qg_Q) (p : Nat) : 0 ≤ qg_bal qs p := by
  unfold qg_bal
  split <;> omega
theorem pz_unrest_0 (qs : List qg_Q) : 0 ≤ qg_unrest qs := by
  have h0 := pz_bal_0 qs 0
  have h1 := pz_bal_0 qs 1
  have h2 := pz_bal_0 qs 2
  unfold qg_unrest
  omega
theorem ok_addArticle (F : qg_F) (s l : Int) : pz_ok F (op_addArticle F s l) := by
  unfold op_addArticle
  split
  · split
    · exact pz_yes (by omega) rfl
    · exact pz_no (by decide)
  · exact pz_no (by decide)
theorem ok_removeArticle (F : qg_F) (a : Int) : pz_ok F (op_removeArticle F a) := by
  unfold op_removeArticle
  split
  · exact pz_yes (by omega) rfl
  · exact pz_no (by decide)
theorem ok_setArticle (F : qg_F) (a w v : Int) : pz_ok F (op_setArticle F a w v) := by
  unfold op_setArticle
  split
  · exact pz_no (by decide)
  · split
    · split
      · exact pz_yes (by omega) rfl
      · exact pz_no (by decide)
    · split
      · split
        · exact pz_yes (by omega) rfl
        · exact pz_no (by decide)
      · exact pz_no (by decide)
theorem ok_addSentence (F : qg_F) (a l : Int) : pz_ok F (op_addSentence F a l) := by
  unfold op_addSentence
  split
  · exact pz_no (by decide)
  · split
    · split
      · exact pz_yes (by omega) rfl
      · exact pz_no (by decide)
    · exact pz_no (by decide)
theorem ok_addQuote (F : qg_F) (a s w g : Int) : pz_ok F (op_addQuote F a s w g) := by
  unfold op_addQuote
  by_cases hc : qg_hasS F.1.1 a s ∧ (1 ≤ w ∧ w ≤ 3) ∧ 1 ≤ g ∧ g ≤ 6
  · rw [qg_if_pos hc]
    split
    · exact pz_yes (by omega) rfl
    · exact pz_no (by decide)
  · rw [qg_if_neg hc]
    exact pz_no (by decide)
theorem ok_removeQuote (F : qg_F) (q : Int) : pz_ok F (op_removeQuote F q) := by
  unfold op_removeQuote
  split
  · exact pz_yes (by omega) rfl
  · exact pz_no (by decide)
theorem ok_place (F : qg_F) (q p c r : Int) : pz_ok F (op_place F q p c r) := by
  unfold op_place
  split
  · split
    · exact pz_yes (pz_unrest_0 _) rfl
    · exact pz_no (by decide)
  · exact pz_no (by decide)
theorem ok_lift (F : qg_F) (q : Int) : pz_ok F (op_lift F q) := by
  unfold op_lift
  split
  · exact pz_no (by decide)
  · split
    · exact pz_no (by decide)
    · exact pz_yes (pz_unrest_0 _) rfl
theorem ok_floatAll (F : qg_F) : pz_ok F (op_floatAll F) := pz_yes (by omega) rfl
theorem ok_setRule (F : qg_F) (w v : Int) : pz_ok F (op_setRule F w v) := by
  unfold op_setRule
  repeat' split
  all_goals first | exact pz_no (by decide) | exact pz_yes (by omega) rfl
theorem ok_take (F : qg_F) (s : Int) : pz_ok F (op_take F s) := by
  unfold op_take
  split
  · exact pz_yes (by omega) rfl
  · exact pz_no (by decide)
theorem ok_restore (F : qg_F) (s : Int) : pz_ok F (op_restore F s) := by
  unfold op_restore
  split
  · split
    · exact pz_no (by decide)
    · exact pz_yes (by omega) rfl
  · exact pz_no (by decide)
-- the answer and the state then hang on the state alone
def pz_same (r r' : Int × qg_F) : Prop := r.1 = r'.1 ∧ r.2.1 = r'.2.1
section SM
variable (S : qg_S) (H H' : List qg_S) (X X' : List Nat)
theorem sm_addArticle (s l : Int) : pz_same (op_addArticle (S, H, X) s l) (op_addArticle (S, H', X') s l) := by
  unfold op_addArticle
  dsimp only
  split
  · split <;> exact ⟨rfl, rfl⟩
  · exact ⟨rfl, rfl⟩
theorem sm_removeArticle (a : Int) : pz_same (op_removeArticle (S, H, X) a) (op_removeArticle (S, H', X') a) := by
  unfold op_removeArticle
  dsimp only
  split <;> exact ⟨rfl, rfl⟩
theorem sm_setArticle (a w v : Int) : pz_same (op_setArticle (S, H, X) a w v) (op_setArticle (S, H', X') a w v) := by
  unfold op_setArticle
  dsimp only
  cases qg_art S.1 a with
  | none => exact ⟨rfl, rfl⟩
  | some A =>
    dsimp only
    repeat' split
    all_goals exact ⟨rfl, rfl⟩
theorem sm_addSentence (a l : Int) : pz_same (op_addSentence (S, H, X) a l) (op_addSentence (S, H', X') a l) := by
  unfold op_addSentence
  dsimp only
  cases qg_art S.1 a with
  | none => exact ⟨rfl, rfl⟩
  | some A =>
    dsimp only
    repeat' split
    all_goals exact ⟨rfl, rfl⟩
theorem sm_addQuote (a s w g : Int) : pz_same (op_addQuote (S, H, X) a s w g) (op_addQuote (S, H', X') a s w g) := by
  unfold op_addQuote
  dsimp only
  by_cases hc : qg_hasS S.1 a s ∧ (1 ≤ w ∧ w ≤ 3) ∧ 1 ≤ g ∧ g ≤ 6
  · rw [qg_if_pos hc, qg_if_pos hc]
    split <;> exact ⟨rfl, rfl⟩
  · rw [qg_if_neg hc, qg_if_neg hc]
    exact ⟨rfl, rfl⟩
theorem sm_removeQuote (q : Int) : pz_same (op_removeQuote (S, H, X) q) (op_removeQuote (S, H', X') q) := by
  unfold op_removeQuote
  dsimp only
  split <;> exact ⟨rfl, rfl⟩
theorem sm_place (q p c r : Int) : pz_same (op_place (S, H, X) q p c r) (op_place (S, H', X') q p c r) := by
  unfold op_place
  dsimp only
  split
  · split <;> exact ⟨rfl, rfl⟩
  · exact ⟨rfl, rfl⟩
theorem sm_lift (q : Int) : pz_same (op_lift (S, H, X) q) (op_lift (S, H', X') q) := by
  unfold op_lift
  dsimp only
  cases qg_quo S.1 q with
  | none => exact ⟨rfl, rfl⟩
  | some r =>
    dsimp only
    cases r.2.2.2.2 <;> exact ⟨rfl, rfl⟩
theorem sm_floatAll : pz_same (op_floatAll (S, H, X)) (op_floatAll (S, H', X')) := ⟨rfl, rfl⟩
theorem sm_setRule (w v : Int) : pz_same (op_setRule (S, H, X) w v) (op_setRule (S, H', X') w v) := by
  unfold op_setRule
  dsimp only
  repeat' split
  all_goals exact ⟨rfl, rfl⟩
theorem sm_take (s : Int) : pz_same (op_take (S, H, X) s) (op_take (S, H', X') s) := by
  unfold op_take
  dsimp only
  split <;> exact ⟨rfl, rfl⟩
theorem sm_restore (s : Int) : pz_same (op_restore (S, H, X) s) (op_restore (S, H', X') s) := by
  unfold op_restore
  dsimp only
  split
  · cases qg_sn S s.toNat <;> exact ⟨rfl, rfl⟩
  · exact ⟨rfl, rfl⟩
end SM
-- act
theorem qa_wf {F : qg_F} (hw : qg_wF F) (y : Int) : qg_wF (qa_act F y).2 := by
  unfold qa_act
  repeat' split
  · exact wf_addArticle hw _ _
  · exact wf_removeArticle hw _
  · exact wf_setArticle hw _ _ _
  · exact wf_addSentence hw _ _
  · exact wf_addQuote hw _ _ _ _
  · exact wf_removeQuote hw _
  · exact wf_place hw _ _ _ _
  · exact wf_lift hw _
  · exact wf_floatAll hw
  · exact wf_setRule hw _ _
  · exact wf_take hw _
  · exact wf_restore hw _
theorem qa_pz {F : qg_F} (hw : qg_wF F) (h : pz_F F) (y : Int) : pz_F (qa_act F y).2 := by
  unfold qa_act
  repeat' split
  · exact pz_addArticle h _ _
  · exact pz_removeArticle h _
  · exact pz_setArticle h _ _ _
  · exact pz_addSentence h _ _
  · exact pz_addQuote h _ _ _ _
  · exact pz_removeQuote h _
  · exact pz_place hw h _ _ _ _
  · exact pz_lift h _
  · exact pz_floatAll hw h
  · exact pz_setRule h _ _
  · exact pz_take h _
  · exact pz_restore h _
theorem qa_ok (F : qg_F) (y : Int) : pz_ok F (qa_act F y) := by
  unfold qa_act
  repeat' split
  · exact ok_addArticle F _ _
  · exact ok_removeArticle F _
  · exact ok_setArticle F _ _ _
  · exact ok_addSentence F _ _
  · exact ok_addQuote F _ _ _ _
  · exact ok_removeQuote F _
  · exact ok_place F _ _ _ _
  · exact ok_lift F _
  · exact ok_floatAll F
  · exact ok_setRule F _ _
  · exact ok_take F _
  · exact ok_restore F _
theorem qa_same {F G : qg_F} (h : F.1 = G.1) (y : Int) : pz_same (qa_act F y) (qa_act G y) := by
  obtain ⟨S, H, X⟩ := F
  obtain ⟨S', H', X'⟩ := G
  have h : S = S' := h
  subst h
  by_cases h1 : mv_and y 15 = 0 ∨ mv_and y 15 = 1
  · rw [qa_addArticle (F := (S, H, X)) h1, qa_addArticle (F := (S, H', X')) h1]
    exact sm_addArticle S H H' X X' _ _
  by_cases h2 : mv_and y 15 = 2
  · rw [qa_removeArticle (F := (S, H, X)) h2, qa_removeArticle (F := (S, H', X')) h2]
    exact sm_removeArticle S H H' X X' _
  by_cases h3 : mv_and y 15 = 3
  · rw [qa_setArticle (F := (S, H, X)) h3, qa_setArticle (F := (S, H', X')) h3]
    exact sm_setArticle S H H' X X' _ _ _
  by_cases h4 : mv_and y 15 = 4 ∨ mv_and y 15 = 5
  · rw [qa_addSentence (F := (S, H, X)) h4, qa_addSentence (F := (S, H', X')) h4]
    exact sm_addSentence S H H' X X' _ _
  by_cases h5 : mv_and y 15 = 6 ∨ mv_and y 15 = 7
  · rw [qa_addQuote (F := (S, H, X)) h5, qa_addQuote (F := (S, H', X')) h5]
    exact sm_addQuote S H H' X X' _ _ _ _
  by_cases h6 : mv_and y 15 = 8
  · rw [qa_removeQuote (F := (S, H, X)) h6, qa_removeQuote (F := (S, H', X')) h6]
    exact sm_removeQuote S H H' X X' _
  by_cases h7 : mv_and y 15 = 9 ∨ mv_and y 15 = 10
  · rw [qa_place (F := (S, H, X)) h7, qa_place (F := (S, H', X')) h7]
    exact sm_place S H H' X X' _ _ _ _
  by_cases h8 : mv_and y 15 = 11
  · rw [qa_lift (F := (S, H, X)) h8, qa_lift (F := (S, H', X')) h8]
    exact sm_lift S H H' X X' _
  by_cases h9 : mv_and y 15 = 12
  · rw [qa_floatAll (F := (S, H, X)) h9, qa_floatAll (F := (S, H', X')) h9]
    exact sm_floatAll S H H' X X'
  by_cases h10 : mv_and y 15 = 13
  · rw [qa_setRule (F := (S, H, X)) h10, qa_setRule (F := (S, H', X')) h10]
    exact sm_setRule S H H' X X' _ _
  by_cases h11 : mv_and y 15 = 14
  · rw [qa_take (F := (S, H, X)) h11, qa_take (F := (S, H', X')) h11]
    exact sm_take S H H' X X' _
  have hr : ¬ (0 ≤ mv_and y 15 ∧ mv_and y 15 < 15) := by omega
  rw [qa_restore (F := (S, H, X)) hr, qa_restore (F := (S, H', X')) hr]
  exact sm_restore S H H' X X' _
/-- what undo gives back after a call that has succeeded -/
theorem qa_undo {F : qg_F} {y : Int} (h : 0 ≤ (qa_act F y).1) : 0 ≤ (op_undo (qa_act F y).2).1 ∧ (op_undo (qa_act F y).2).2.1 = F.1 := by
  rcases qa_ok F y with z | ⟨-, h2⟩
  · omega
  · have e : (qa_act F y).2.2.1 = (if F.2.1.length = 5 then F.2.1.tail else F.2.1) ++ [F.1] := congrArg (fun x => x.1) h2
    unfold op_undo
    rw [e]
    have hl : ((if F.2.1.length = 5 then F.2.1.tail else F.2.1) ++ [F.1]).getLast? = some F.1 := by simp only [List.getLast?_append, List.getLast?_singleton, Option.some_or]
    rw [hl]
    exact ⟨by show (0 : Int) ≤ ((List.length _ : Nat) : Int); omega, rfl⟩
theorem qa_neg {F : qg_F} {y : Int} (h : (qa_act F y).1 < 0) : (qa_act F y).2 = F := by
  rcases qa_ok F y with z | z
  · exact z.2
  · omega
/-- a place is taken just if it would not be refused -/
theorem qa_reason {F : qg_F} {y : Int} (hk : mv_and y 15 = 9 ∨ mv_and y 15 = 10) : an_refusal F (ql (mv_shr y 4) 5) (ql (mv_shr y 6) 3) (ql (mv_shr y 5) 6) (ql (mv_shr y 3) 20) = 0 ↔ 0 ≤ (qa_act F y).1 := by
  rw [qa_place hk]
  unfold an_refusal op_place
  split
  · split
    · rename_i h
      exact ⟨fun _ => pz_unrest_0 _, fun _ => h⟩
    · rename_i h
      exact ⟨fun z => absurd z h, fun z => absurd (show (0 : Int) ≤ -2 from z) (by decide)⟩
  · exact ⟨fun z => absurd z (by decide), fun z => absurd (show (0 : Int) ≤ -1 from z) (by decide)⟩
