/-! The answers that isRight asks for, and the class's calls with an answer that is given. -/
/-- the state is F's, and nothing else has changed -/
def pz_I (F : qg_F) (M0 M : mv_M) : Prop := qr_X M F ∧ mv_of1 qf_X M0 M
section SQ
variable {F : qg_F} {M0 M : mv_M} {Q : mv_R} {r : Int}
theorem sq_count {w : Int} (hI : pz_I F M0 M) (hw : qg_wF F) (hr : an_count F w = r) (h : ∀ M', pz_I F M0 M' → Q (some (.inl r)) M') : E_X10_count [.inr (10, 0), .inl w] M Q := by
  subst hr
  exact sp_X10_count hI.1 hw (fun M' h1 h2 => h M' ⟨h1, hI.2.tr h2⟩)
theorem sq_article {a w : Int} (hI : pz_I F M0 M) (hw : qg_wF F) (hr : an_article F a w = r) (h : ∀ M', pz_I F M0 M' → Q (some (.inl r)) M') : E_X10_article [.inr (10, 0), .inl a, .inl w] M Q := by
  subst hr
  exact sp_X10_article hI.1 hw (fun M' h1 h2 => h M' ⟨h1, hI.2.tr h2⟩)
theorem sq_lineAt {a w : Int} (hI : pz_I F M0 M) (hw : qg_wF F) (hr : an_lineAt F a w = r) (h : ∀ M', pz_I F M0 M' → Q (some (.inl r)) M') : E_X10_lineAt [.inr (10, 0), .inl a, .inl w] M Q := by
  subst hr
  exact sp_X10_lineAt hI.1 hw (fun M' h1 h2 => h M' ⟨h1, hI.2.tr h2⟩)
theorem sq_quote {a w : Int} (hI : pz_I F M0 M) (hw : qg_wF F) (hr : an_quote F a w = r) (h : ∀ M', pz_I F M0 M' → Q (some (.inl r)) M') : E_X10_quote [.inr (10, 0), .inl a, .inl w] M Q := by
  subst hr
  exact sp_X10_quote hI.1 hw (fun M' h1 h2 => h M' ⟨h1, hI.2.tr h2⟩)
theorem sq_module {a : Int} (hI : pz_I F M0 M) (hw : qg_wF F) (hr : an_module F a = r) (h : ∀ M', pz_I F M0 M' → Q (some (.inl r)) M') : E_X10_module [.inr (10, 0), .inl a] M Q := by
  subst hr
  exact sp_X10_module hI.1 hw (fun M' h1 h2 => h M' ⟨h1, hI.2.tr h2⟩)
theorem sq_page {a w : Int} (hI : pz_I F M0 M) (hw : qg_wF F) (hr : an_page F a w = r) (h : ∀ M', pz_I F M0 M' → Q (some (.inl r)) M') : E_X10_page [.inr (10, 0), .inl a, .inl w] M Q := by
  subst hr
  exact sp_X10_page hI.1 hw (fun M' h1 h2 => h M' ⟨h1, hI.2.tr h2⟩)
theorem sq_refusal {a b c d : Int} (hI : pz_I F M0 M) (hw : qg_wF F) (hr : an_refusal F a b c d = r) (h : ∀ M', pz_I F M0 M' → Q (some (.inl r)) M') : E_X10_refusal [.inr (10, 0), .inl a, .inl b, .inl c, .inl d] M Q := by
  subst hr
  exact sp_X10_refusal hI.1 hw (fun M' h1 h2 => h M' ⟨h1, hI.2.tr h2⟩)
theorem sq_troubled (hI : pz_I F M0 M) (hw : qg_wF F) (hr : an_troubled F = r) (h : ∀ M', pz_I F M0 M' → Q (some (.inl r)) M') : E_X10_troubled [.inr (10, 0)] M Q := by
  subst hr
  exact sp_X10_troubled hI.1 hw (fun M' h1 h2 => h M' ⟨h1, hI.2.tr h2⟩)
end SQ
theorem an_art {F : qg_F} {k : Nat} {A : qg_A} (h : F.1.1.1[k]? = some A) : qg_art F.1.1 (k : Int) = some A := by
  unfold qg_art
  rw [if_pos (by omega)]
  simpa using h
theorem an_quo {F : qg_F} {k : Nat} {q : qg_Q} (h : F.1.1.2.1[k]? = some q) : qg_quo F.1.1 (k : Int) = some q := by
  unfold qg_quo
  rw [if_pos (by omega)]
  simpa using h
theorem ati_some {ls : List Nat} {i m : Nat} {v : Int} (h : ls[i]? = some m) (hv : v = (i : Int)) : qg_oi (qg_ati ls v) = (m : Int) := by
  subst hv
  unfold qg_ati
  rw [if_pos (by omega), Int.toNat_natCast, h]
  rfl
theorem ati_none {ls : List Nat} {i : Nat} {v : Int} (h : ls.length ≤ i) (hv : v = (i : Int)) : qg_oi (qg_ati ls v) = -99 := by
  subst hv
  unfold qg_ati
  rw [if_pos (by omega), Int.toNat_natCast, List.getElem?_eq_none h]
  rfl
section AR
variable {F : qg_F} {k : Nat} {A : qg_A}
theorem ar_0 (h : F.1.1.1[k]? = some A) : an_article F (k : Int) 0 = (A.1 : Int) := by unfold an_article; rw [an_art h]; rfl
theorem ar_1 (h : F.1.1.1[k]? = some A) : an_article F (k : Int) 1 = (A.2.1 : Int) := by unfold an_article; rw [an_art h]; rfl
theorem ar_3 (h : F.1.1.1[k]? = some A) : an_article F (k : Int) 3 = (qg_ov F.1.1 k : Int) := by unfold an_article; rw [an_art h]; rfl
theorem ar_4 (h : F.1.1.1[k]? = some A) : an_article F (k : Int) 4 = (qg_ju F.1.1 k : Int) := by unfold an_article; rw [an_art h]; rfl
theorem ar_5 (h : F.1.1.1[k]? = some A) : an_article F (k : Int) 5 = qg_oi (qg_ati (qg_ls F.1.1 k) 0) := by unfold an_article; rw [an_art h]; rfl
theorem ar_6 (h : F.1.1.1[k]? = some A) : an_article F (k : Int) 6 = qg_oi (qg_ati (qg_ls F.1.1 k) (((qg_ls F.1.1 k).length : Int) - 1)) := by unfold an_article; rw [an_art h]; rfl
theorem ar_line (h : F.1.1.1[k]? = some A) {i : Nat} (hi : i < A.2.1) : an_lineAt F (k : Int) (i : Int) = qg_oi (qg_ati (qg_ls F.1.1 k) (i : Int)) := by
  unfold an_lineAt
  rw [an_art h]
  exact if_pos (by omega)
end AR
section AQ
variable {F : qg_F} {k : Nat} {q : qg_Q}
theorem aq_2 (h : F.1.1.2.1[k]? = some q) : an_quote F (k : Int) 2 = (q.2.2.1 : Int) := by unfold an_quote; rw [an_quo h]; rfl
theorem aq_3 (h : F.1.1.2.1[k]? = some q) : an_quote F (k : Int) 3 = (q.2.2.2.1 : Int) := by unfold an_quote; rw [an_quo h]; rfl
theorem aq_4 (h : F.1.1.2.1[k]? = some q) : an_quote F (k : Int) 4 = qg_oi (q.2.2.2.2.map (fun p => p.1)) := by unfold an_quote; rw [an_quo h]; rfl
theorem aq_5 (h : F.1.1.2.1[k]? = some q) : an_quote F (k : Int) 5 = qg_oi (q.2.2.2.2.map (fun p => p.2.1)) := by unfold an_quote; rw [an_quo h]; rfl
theorem aq_6 (h : F.1.1.2.1[k]? = some q) : an_quote F (k : Int) 6 = qg_oi (q.2.2.2.2.map (fun p => p.2.2)) := by unfold an_quote; rw [an_quo h]; rfl
theorem aq_7 (h : F.1.1.2.1[k]? = some q) : an_quote F (k : Int) 7 = qg_oi (qg_dist F.1.1 q) := by unfold an_quote; rw [an_quo h]; rfl
end AQ
theorem am_at {F : qg_F} {m : Nat} {x : Int} (hx : x = (m : Int)) (h : m < 360) : an_module F x = ((qg_lay F.1.1).1 m : Int) := by
  subst hx
  unfold an_module
  rw [if_pos (by omega), Int.toNat_natCast]
theorem aR_at {F : qg_F} {k a b c : Nat} (hk : k < F.1.1.2.1.length) (ha : a < 3) (hb : b < 6) (hc : c < 20) : an_refusal F (k : Int) (a : Int) (b : Int) (c : Int) = qg_reason F.1.1 k (a, b, c) := by
  unfold an_refusal
  rw [if_pos (by omega)]
  rfl
/-- what isRight sums up -/
def pz_tk (C : qg_C) (k : Nat) : Nat := qg_sum (fun i => (qg_ls C i).length + qg_ju C i) k
theorem pz_tk_succ (C : qg_C) (k : Nat) : pz_tk C (k + 1) = pz_tk C k + ((qg_ls C k).length + qg_ju C k) := rfl
theorem pz_tk_le {C : qg_C} (hw : qg_wC C) {k : Nat} (hk : k ≤ C.1.length) : pz_tk C k ≤ k * 560 ∧ qg_sum (qg_ov C) k ≤ k * 200 ∧ qg_sum (qg_ju C) k ≤ k * 360 := by
  have h : ∀ i, i < k → (qg_ls C i).length ≤ 200 ∧ qg_ju C i ≤ 360 ∧ qg_ov C i ≤ 200 := fun i hi => by
    have := qg_lay_ok hw (i := i) (by omega)
    unfold qg_ov
    omega
  exact ⟨qg_sum_le k (fun i hi => by have := h i hi; show _ + _ ≤ 560; omega), qg_sum_le k (fun i hi => (h i hi).2.2), qg_sum_le k (fun i hi => (h i hi).2.1)⟩
theorem pz_at_le {q : qg_Q} (hw : qg_wQ q) : pz_at q ≤ 18 := by
  have h1 := hw.2.1
  have h2 := hw.2.2.2.1
  unfold pz_at
  split
  · omega
  · exact Nat.mul_le_mul h1 h2
theorem pz_qa_at {C : qg_C} {k : Nat} {q : qg_Q} (h : C.2.1[k]? = some q) : pz_qa C k = pz_at q := by
  unfold pz_qa
  rw [List.getD_eq_getElem?_getD, h]
  rfl
theorem pz_qa_le {C : qg_C} (hw : qg_wC C) {k : Nat} (hk : k ≤ C.2.1.length) : qg_sum (pz_qa C) k ≤ k * 18 := qg_sum_le k (fun i hi => by
  obtain ⟨q, hq⟩ := qg_some (show i < C.2.1.length by omega)
  rw [pz_qa_at hq]
  exact pz_at_le (hw.2.2.2.1 q (List.mem_of_getElem? hq)).1)
