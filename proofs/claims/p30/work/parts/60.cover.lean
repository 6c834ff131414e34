/-! What placed quotes cover: no module twice. -/
/-- two quotes have no module in common -/
def pz_R (q r : qg_Q) : Prop := ∀ m, qg_cov q m = true → qg_cov r m = true → False
def pz_dj (qs : List qg_Q) : Prop := qs.Pairwise pz_R
theorem pz_R.sy {q r : qg_Q} (h : pz_R q r) : pz_R r q := fun m h1 h2 => h m h2 h1
theorem pz_cov_at {q : qg_Q} {m : Nat} (h : qg_cov q m = true) : ∃ p, q.2.2.2.2 = some p ∧ m / 120 = p.1 ∧ p.2.1 ≤ m % 120 / 20 ∧ m % 120 / 20 < p.2.1 + q.2.2.1 ∧ p.2.2 ≤ m % 20 ∧ m % 20 < p.2.2 + q.2.2.2.1 := by
  unfold qg_cov at h
  cases hp : q.2.2.2.2 with
  | none => rw [hp] at h; cases h
  | some p =>
    rw [hp] at h
    exact ⟨p, rfl, of_decide_eq_true h⟩
theorem pz_cov_of {q : qg_Q} {m : Nat} {p : Nat × Nat × Nat} (hp : q.2.2.2.2 = some p) (h : m / 120 = p.1 ∧ p.2.1 ≤ m % 120 / 20 ∧ m % 120 / 20 < p.2.1 + q.2.2.1 ∧ p.2.2 ≤ m % 20 ∧ m % 20 < p.2.2 + q.2.2.2.1) : qg_cov q m = true := by
  unfold qg_cov
  rw [hp]
  exact decide_eq_true h
theorem pz_cov_none {q : qg_Q} (hp : q.2.2.2.2 = none) (m : Nat) : qg_cov q m = false := by
  unfold qg_cov
  rw [hp]
theorem pz_R_none {q r : qg_Q} (hp : q.2.2.2.2 = none) : pz_R q r := fun m h1 _ => by
  rw [pz_cov_none hp] at h1; cases h1
/-- quotes that are not near have nothing in common -/
theorem pz_R_far {q r : qg_Q} {g : Nat} (hg : 1 ≤ g) (h : ∀ p o, q.2.2.2.2 = some p → r.2.2.2.2 = some o → o.1 = p.1 → ¬ qg_qd q r p o < g) : pz_R q r := by
  intro m h1 h2
  obtain ⟨p, hp, a1, a2, a3, a4, a5⟩ := pz_cov_at h1
  obtain ⟨o, ho, b1, b2, b3, b4, b5⟩ := pz_cov_at h2
  refine h p o hp ho (by omega) ?_
  unfold qg_qd qg_gap
  omega
theorem pz_dj_none : pz_dj [] := List.Pairwise.nil
theorem pz_dj_sub {qs qs' : List qg_Q} (h : pz_dj qs) (hs : List.Sublist qs' qs) : pz_dj qs' := List.Pairwise.sublist hs h
theorem pz_cov_dec (a : Nat) (q : qg_Q) (m : Nat) : qg_cov (qg_dec a q) m = qg_cov q m := rfl
theorem pz_dj_drop {qs : List qg_Q} (h : pz_dj qs) (a : Nat) : pz_dj (qg_dropQs a qs) := by
  unfold qg_dropQs pz_dj
  rw [List.pairwise_map]
  exact List.Pairwise.sublist List.filter_sublist h
theorem pz_dj_snoc {qs : List qg_Q} (h : pz_dj qs) {q : qg_Q} (hq : q.2.2.2.2 = none) : pz_dj (qs ++ [q]) := by
  unfold pz_dj
  rw [List.pairwise_append]
  refine ⟨h, List.pairwise_singleton _ _, fun a _ b hb => ?_⟩
  rw [List.mem_singleton.mp hb]
  exact (pz_R_none hq).sy
theorem pz_dj_at {qs : List qg_Q} : pz_dj qs ↔ ∀ (i j : Nat) (q r : qg_Q), i < j → qs[i]? = some q → qs[j]? = some r → pz_R q r := by
  unfold pz_dj
  rw [List.pairwise_iff_getElem]
  constructor
  · intro h i j q r hij hi hj
    obtain ⟨h1, e1⟩ := List.getElem?_eq_some_iff.mp hi
    obtain ⟨h2, e2⟩ := List.getElem?_eq_some_iff.mp hj
    rw [← e1, ← e2]
    exact h i j h1 h2 hij
  · intro h i j hi hj hij
    exact h i j _ _ hij (List.getElem?_eq_getElem hi) (List.getElem?_eq_getElem hj)
theorem pz_dj_set {qs : List qg_Q} (h : pz_dj qs) {n : Nat} {q' : qg_Q} (hf : ∀ i r, i ≠ n → qs[i]? = some r → pz_R q' r) : pz_dj (qs.set n q') := by
  rw [pz_dj_at] at h ⊢
  intro i j q r hij hi hj
  rw [List.getElem?_set] at hi hj
  by_cases e1 : n = i
  · rw [if_pos e1] at hi
    rw [if_neg (by omega)] at hj
    split at hi
    · cases hi
      exact hf j r (by omega) hj
    · cases hi
  · rw [if_neg e1] at hi
    by_cases e2 : n = j
    · rw [if_pos e2] at hj
      split at hj
      · cases hj
        exact (hf i q (by omega) hi).sy
      · cases hj
    · rw [if_neg e2] at hj
      exact h i j q r hij hi hj
theorem pz_dj_put_none {C : qg_C} (h : pz_dj C.2.1) (n : Nat) : pz_dj (qg_put C n none).2.1 := by
  cases hq : C.2.1[n]? with
  | none => unfold qg_put; rw [hq]; exact h
  | some q =>
    rw [qg_put_eq hq]
    exact pz_dj_set h (fun i r _ _ => pz_R_none rfl)
theorem pz_reason_near {C : qg_C} {n : Nat} {p : Nat × Nat × Nat} (h : qg_reason C n p = 0) : ¬ qg_near (qg_put C n (some p)) n := by
  intro h2
  unfold qg_reason at h
  by_cases h1 : qg_out C n p
  · rw [qg_if_pos h1] at h; omega
  rw [qg_if_neg h1, qg_if_pos h2] at h
  omega
theorem pz_dj_put {C : qg_C} (hw : qg_wC C) (h : pz_dj C.2.1) {n : Nat} {p : Nat × Nat × Nat} (hr : qg_reason C n p = 0) : pz_dj (qg_put C n (some p)).2.1 := by
  cases hq : C.2.1[n]? with
  | none => unfold qg_put; rw [hq]; exact h
  | some q =>
    have hn := pz_reason_near hr
    have hat := qg_put_at hq (some p)
    have hne : ∀ i, i ≠ n → (qg_put C n (some p)).2.1[i]? = C.2.1[i]? := fun i hi => qg_put_ne _ hi
    have hru := qg_put_r C n (some p)
    have hg : 1 ≤ C.2.2.2.2 := hw.2.2.2.2.2.2.2.1
    rw [qg_put_eq hq]
    refine pz_dj_set h (fun i r hi hir => pz_R_far hg (fun p1 o hp1 ho hpo hlt => hn ?_))
    exact ⟨i, qg_mv q (some p), r, p1, o, hi, hat, (hne i hi).trans hir, hp1, ho, hpo, by rw [hru]; exact hlt⟩
theorem pz_dj_fl {C : qg_C} (hw : qg_wC C) (hi : qg_inC C) (h : pz_dj C.2.1) : ∀ k, pz_dj (qg_flF C k).1.2.1
  | 0 => h
  | k + 1 => by
    have ih := pz_dj_fl hw hi h k
    have hk := qg_flF_ok hw hi k
    rw [qg_flF_succ]
    split
    · exact ih
    · split
      · exact ih
      · split
        · exact ih
        · rename_i hb
          rcases qg_best_ok (qg_flF C k).1 k with z | ⟨m, z1, z2, z3⟩
          · rw [z] at hb; exact absurd rfl hb
          · have e : (qg_best (qg_flF C k).1 k).1.toNat = m := by rw [z2]; exact Int.toNat_natCast m
            rw [e]
            exact pz_dj_put hk.1 ih z3
-- the whole state
def pz_S (S : qg_S) : Prop := pz_dj S.1.2.1 ∧ ∀ k C, qg_sn S k = some C → pz_dj C.2.1
def pz_F (F : qg_F) : Prop := pz_S F.1 ∧ (∀ S ∈ F.2.1, pz_S S) ∧ F.2.2 = []
theorem pz_F_act {F : qg_F} (h : pz_F F) : pz_F (qg_act F) := by
  refine ⟨h.1, fun S hS => ?_, h.2.2⟩
  rcases List.mem_append.mp hS with q | q
  · split at q
    · exact h.2.1 S (List.mem_of_mem_tail q)
    · exact h.2.1 S q
  · rw [List.mem_singleton.mp q]; exact h.1
theorem pz_F_wc {F : qg_F} (h : pz_F F) {C : qg_C} (hC : pz_dj C.2.1) : pz_F (qg_wc F C) := ⟨⟨hC, h.1.2⟩, h.2.1, h.2.2⟩
theorem pz_F_aw {F : qg_F} (h : pz_F F) {C : qg_C} (hC : pz_dj C.2.1) : pz_F (qg_wc (qg_act F) C) := pz_F_wc (pz_F_act h) hC
theorem pz_addArticle {F : qg_F} (h : pz_F F) (s l : Int) : pz_F (op_addArticle F s l).2 := by
  unfold op_addArticle
  split
  · split
    · exact pz_F_aw h h.1.1
    · exact h
  · exact h
theorem pz_removeArticle {F : qg_F} (h : pz_F F) (a : Int) : pz_F (op_removeArticle F a).2 := by
  unfold op_removeArticle
  split
  · exact pz_F_aw h (pz_dj_drop h.1.1 _)
  · exact h
theorem pz_setArticle {F : qg_F} (h : pz_F F) (a w v : Int) : pz_F (op_setArticle F a w v).2 := by
  unfold op_setArticle
  split
  · exact h
  · split
    · split
      · exact pz_F_aw h h.1.1
      · exact h
    · split
      · split
        · exact pz_F_aw h h.1.1
        · exact h
      · exact h
theorem pz_addSentence {F : qg_F} (h : pz_F F) (a l : Int) : pz_F (op_addSentence F a l).2 := by
  unfold op_addSentence
  split
  · exact h
  · split
    · split
      · exact pz_F_aw h h.1.1
      · exact h
    · exact h
theorem pz_addQuote {F : qg_F} (h : pz_F F) (a s w g : Int) : pz_F (op_addQuote F a s w g).2 := by
  unfold op_addQuote
  by_cases hc : qg_hasS F.1.1 a s ∧ (1 ≤ w ∧ w ≤ 3) ∧ 1 ≤ g ∧ g ≤ 6
  · first
      | (rw [qg_if_pos hc]; split; exact pz_F_aw h (pz_dj_snoc h.1.1 rfl); exact h)
      | (rw [if_pos hc]; split; exact pz_F_aw h (pz_dj_snoc h.1.1 rfl); exact h)
  · first
      | (rw [qg_if_neg hc]; exact h)
      | (rw [if_neg hc]; exact h)
theorem pz_removeQuote {F : qg_F} (h : pz_F F) (q : Int) : pz_F (op_removeQuote F q).2 := by
  unfold op_removeQuote
  split
  · exact pz_F_aw h (pz_dj_sub h.1.1 (List.eraseIdx_sublist _ _))
  · exact h
theorem pz_place {F : qg_F} (hw : qg_wF F) (h : pz_F F) (q p c r : Int) : pz_F (op_place F q p c r).2 := by
  unfold op_place
  split
  · split
    · rename_i hr
      exact pz_F_aw h (pz_dj_put hw.1.1.1 h.1.1 hr)
    · exact h
  · exact h
theorem pz_lift {F : qg_F} (h : pz_F F) (q : Int) : pz_F (op_lift F q).2 := by
  unfold op_lift
  split
  · exact h
  · split
    · exact h
    · exact pz_F_aw h (pz_dj_put_none h.1.1 _)
theorem pz_floatAll {F : qg_F} (hw : qg_wF F) (h : pz_F F) : pz_F (op_floatAll F).2 := pz_F_aw h (pz_dj_fl hw.1.1.1 hw.1.2.1 h.1.1 _)
theorem pz_setRule {F : qg_F} (h : pz_F F) (w v : Int) : pz_F (op_setRule F w v).2 := by
  unfold op_setRule
  repeat' split
  all_goals first | exact h | exact pz_F_aw h h.1.1
theorem pz_take {F : qg_F} (h : pz_F F) (s : Int) : pz_F (op_take F s).2 := by
  unfold op_take
  split
  · refine ⟨⟨h.1.1, fun k C hk => ?_⟩, (pz_F_act h).2⟩
    have h0 := h.1.2 0
    have h1 := h.1.2 1
    unfold qg_sn qg_setSn at hk
    unfold qg_sn at h0 h1
    rw [if_pos rfl] at h0
    rw [if_neg (by decide)] at h1
    dsimp only at hk
    split at hk
    · split at hk
      · cases hk; exact h.1.1
      · exact h0 C hk
    · split at hk
      · exact h1 C hk
      · cases hk; exact h.1.1
  · exact h
theorem pz_restore {F : qg_F} (h : pz_F F) (s : Int) : pz_F (op_restore F s).2 := by
  unfold op_restore
  split
  · split
    · exact h
    · rename_i C hC
      exact pz_F_aw h (h.1.2 _ C hC)
  · exact h
theorem pz_undo {F : qg_F} (h : pz_F F) : pz_F (op_undo F).2 := by
  unfold op_undo
  rcases qg_last F.2.1 with hl | ⟨L, b, hl⟩
  · rw [hl]; exact h
  · have hb := h.2.1
    rw [hl] at hb ⊢
    simp only [List.getLast?_append, List.getLast?_singleton, Option.some_or, List.dropLast_concat]
    exact ⟨hb b (by simp), fun S hS => hb S (List.mem_append_left _ hS), h.2.2⟩
