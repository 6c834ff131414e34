/-! The class: Content. -/
set_option maxRecDepth 100000 in
theorem sp_X1_hasArticle {c : Nat} {C : qg_C} {v : Int} {M : mv_M} {Q : mv_R} (hC : qr_C M c C) (hw : C.1.length ≤ 6) (h1 : 0 ≤ v ∧ v < (C.1.length : Int) → Q (some (.inl 1)) M) (h0 : ¬ (0 ≤ v ∧ v < (C.1.length : Int)) → Q (some (.inl 0)) M) : E_X1_hasArticle [.inr (1, c), .inl v] M Q := by
  refine ev_X1_hasArticle ?_
  refine go_X1_hasArticle [] 50 ?_
  have e := hC.1
  refine And.intro (by omega) ?_
  refine sp_isWithin (fun c1 => And.intro (Or.inr rfl) (h1 (by omega))) (fun c1 => And.intro (Or.inl rfl) (h0 (by omega)))
set_option maxRecDepth 100000 in
theorem sp_X1_hasQuote {c : Nat} {C : qg_C} {v : Int} {M : mv_M} {Q : mv_R} (hC : qr_C M c C) (hw : C.2.1.length ≤ 8) (h1 : 0 ≤ v ∧ v < (C.2.1.length : Int) → Q (some (.inl 1)) M) (h0 : ¬ (0 ≤ v ∧ v < (C.2.1.length : Int)) → Q (some (.inl 0)) M) : E_X1_hasQuote [.inr (1, c), .inl v] M Q := by
  refine ev_X1_hasQuote ?_
  refine go_X1_hasQuote [] 50 ?_
  have e := hC.2.1
  refine And.intro (by omega) ?_
  refine sp_isWithin (fun c1 => And.intro (Or.inr rfl) (h1 (by omega))) (fun c1 => And.intro (Or.inl rfl) (h0 (by omega)))
/-- the article of a number that was given; none -/
def qg_art (C : qg_C) (v : Int) : Option qg_A := if 0 ≤ v then C.1[v.toNat]? else none
def qg_quo (C : qg_C) (v : Int) : Option qg_Q := if 0 ≤ v then C.2.1[v.toNat]? else none
theorem qg_art_some {C : qg_C} {v : Int} (h : 0 ≤ v ∧ v < (C.1.length : Int)) : ∃ (n : Nat) (A : qg_A), v = (n : Int) ∧ n < C.1.length ∧ C.1[n]? = some A ∧ qg_art C v = some A := by
  obtain ⟨n, rfl⟩ := Int.eq_ofNat_of_zero_le h.1
  have hn : n < C.1.length := by omega
  obtain ⟨A, hA⟩ := qg_some hn
  exact ⟨n, A, rfl, hn, hA, by unfold qg_art; rw [if_pos h.1]; simpa using hA⟩
theorem qg_art_none {C : qg_C} {v : Int} (h : ¬ (0 ≤ v ∧ v < (C.1.length : Int))) : qg_art C v = none := by
  unfold qg_art
  by_cases h0 : 0 ≤ v
  · rw [if_pos h0]
    exact List.getElem?_eq_none (by omega)
  · rw [if_neg h0]
theorem qg_quo_some {C : qg_C} {v : Int} (h : 0 ≤ v ∧ v < (C.2.1.length : Int)) : ∃ (n : Nat) (q : qg_Q), v = (n : Int) ∧ n < C.2.1.length ∧ C.2.1[n]? = some q ∧ qg_quo C v = some q := by
  obtain ⟨n, rfl⟩ := Int.eq_ofNat_of_zero_le h.1
  have hn : n < C.2.1.length := by omega
  obtain ⟨A, hA⟩ := qg_some hn
  exact ⟨n, A, rfl, hn, hA, by unfold qg_quo; rw [if_pos h.1]; simpa using hA⟩
theorem qg_quo_none {C : qg_C} {v : Int} (h : ¬ (0 ≤ v ∧ v < (C.2.1.length : Int))) : qg_quo C v = none := by
  unfold qg_quo
  by_cases h0 : 0 ≤ v
  · rw [if_pos h0]
    exact List.getElem?_eq_none (by omega)
  · rw [if_neg h0]
/-- what hasLine and hasSentence ask -/
def qg_hasL (C : qg_C) (a l : Int) : Prop := ∃ A, qg_art C a = some A ∧ 0 ≤ l ∧ l < (A.2.1 : Int)
def qg_hasS (C : qg_C) (a s : Int) : Prop := ∃ A, qg_art C a = some A ∧ 0 ≤ s ∧ s < (A.2.2.length : Int)
set_option maxRecDepth 100000 in
theorem sp_X1_hasLine {c : Nat} {C : qg_C} {v l : Int} {M : mv_M} {Q : mv_R} (hC : qr_C M c C) (hw : qg_wC C) (h1 : qg_hasL C v l → Q (some (.inl 1)) M) (h0 : ¬ qg_hasL C v l → Q (some (.inl 0)) M) : E_X1_hasLine [.inr (1, c), .inl v, .inl l] M Q := by
  refine ev_X1_hasLine ?_
  refine go_X1_hasLine [] 50 ?_
  refine sp_X1_hasArticle hC hw.1 (fun c1 => mv_t ?_) (fun c1 => mv_f (And.intro (Or.inl rfl) (h0 ?_)))
  · obtain ⟨n, A, rfl, hn, hA, ha⟩ := qg_art_some c1
    have hr := hC.2.2.1 n A hA
    have e2 : M.1 0 (6 * c + (n : Int).toNat) 2 = (A.2.1 : Int) := hr.2.1
    have w := hw.2.2.1 A (List.mem_of_getElem? hA)
    have w1 := w.2.1
    have w2 := w.2.2.1
    have w6 := hw.1
    refine And.intro (by omega) ?_
    refine And.intro (by omega) ?_
    refine sp_isWithin (fun c2 => mv_t (And.intro (Or.inr rfl) (h1 ⟨A, ha, by omega⟩))) (fun c2 => mv_f (And.intro (Or.inl rfl) (h0 ?_)))
    rintro ⟨A', ha', h3⟩
    rw [ha] at ha'
    cases ha'
    omega
  · rintro ⟨A', ha', h3⟩
    rw [qg_art_none c1] at ha'
    cases ha'
set_option maxRecDepth 100000 in
theorem sp_X1_hasSentence {c : Nat} {C : qg_C} {v l : Int} {M : mv_M} {Q : mv_R} (hC : qr_C M c C) (hw : qg_wC C) (h1 : qg_hasS C v l → Q (some (.inl 1)) M) (h0 : ¬ qg_hasS C v l → Q (some (.inl 0)) M) : E_X1_hasSentence [.inr (1, c), .inl v, .inl l] M Q := by
  refine ev_X1_hasSentence ?_
  refine go_X1_hasSentence [] 50 ?_
  refine sp_X1_hasArticle hC hw.1 (fun c1 => mv_t ?_) (fun c1 => mv_f (And.intro (Or.inl rfl) (h0 ?_)))
  · obtain ⟨n, A, rfl, hn, hA, ha⟩ := qg_art_some c1
    have hr := hC.2.2.1 n A hA
    have e2 : M.1 0 (6 * c + (n : Int).toNat) 3 = (A.2.2.length : Int) := hr.2.2.1
    have w := hw.2.2.1 A (List.mem_of_getElem? hA)
    have w1 := w.2.2.2.1
    have w6 := hw.1
    refine And.intro (by omega) ?_
    refine And.intro (by omega) ?_
    refine sp_isWithin (fun c2 => mv_t (And.intro (Or.inr rfl) (h1 ⟨A, ha, by omega⟩))) (fun c2 => mv_f (And.intro (Or.inl rfl) (h0 ?_)))
    rintro ⟨A', ha', h3⟩
    rw [ha] at ha'
    cases ha'
    omega
  · rintro ⟨A', ha', h3⟩
    rw [qg_art_none c1] at ha'
    cases ha'
set_option maxRecDepth 100000 in
theorem sp_X1_newArticle {c s l : Nat} {C : qg_C} {M : mv_M} {Q : mv_R} (hC : qr_C M c C) (hw : C.1.length < 6) (hq8 : C.2.1.length ≤ 8) (h : ∀ M', qr_C M' c (C.1 ++ [(s, l, [])], C.2) → mv_off (qf_C c) M M' → Q (some (.inl (C.1.length : Int))) M') : E_X1_newArticle [.inr (1, c), .inl (s : Int), .inl (l : Int)] M Q := by
  refine ev_X1_newArticle ?_
  refine go_X1_newArticle [] 50 ?_
  have e3 := hC.1
  refine And.intro (fun c1 => ?_) (fun c1 => absurd c1 (by omega))
  refine And.intro (by omega) ?_
  refine And.intro (by simp [mv_up]; omega) ?_
  refine And.intro (by simp [mv_up]; omega) ?_
  have hz : ∀ M', qr_C M' c (C.1 ++ [(s, l, [])], C.2) → mv_off (qf_C c) M M' → M'.1 1 c 3 - 1 = (C.1.length : Int) → Q (some (.inl (M'.1 1 c 3 - 1))) M' := fun M' h1 h2 h3 => by rw [h3]; exact h M' h1 h2
  have e : (M.1 1 c 3).toNat = C.1.length := by omega
  have hf : qf_C c 0 (6 * c + (M.1 1 c 3).toNat) := by rw [e]; unfold qf_C; omega
  refine hz _ ⟨?_, ?_, ?_, ?_, ?_, ?_, ?_⟩ ((((mv_off.rf.up hf).up hf).up hf).up (Or.inl ⟨rfl, rfl⟩)) ?_
  · simp [mv_up, e3]
  · simpa [mv_up] using hC.2.1
  · intro i a ha
    have ha2 : (C.1 ++ [(s, l, [])])[i]? = some a := ha
    by_cases h1 : i < C.1.length
    · rw [List.getElem?_append_left h1] at ha2
      have hne : ¬ 6 * c + i = 6 * c + (M.1 1 c 3).toNat := by omega
      exact (hC.2.2.1 i a ha2).fr (fun k => by simp [mv_up]; omega) (fun k => by simp [mv_up])
    · rw [List.getElem?_append_right (by omega)] at ha2
      have h0 : i = C.1.length := by
        have := (List.getElem?_eq_some_iff.mp ha2).1
        simp at this
        omega
      subst h0
      simp at ha2
      subst ha2
      rw [e]
      refine ⟨?_, ?_, ?_, fun k l hk => ?_⟩
      · simp [mv_up]
      · simp [mv_up]
      · simp [mv_up]
      · simp at hk
  · intro i q hq
    exact (hC.2.2.2.1 i q hq).fr (fun k => by simp [mv_up])
  · simpa [mv_up] using hC.2.2.2.2.1
  · simpa [mv_up] using hC.2.2.2.2.2.1
  · simpa [mv_up] using hC.2.2.2.2.2.2
  · simp [mv_up, e3]
set_option maxRecDepth 100000 in
theorem sp_X1_newQuote {c a s w h : Nat} {C : qg_C} {M : mv_M} {Q : mv_R} (hC : qr_C M c C) (hw : C.2.1.length < 8) (ha6 : C.1.length ≤ 6) (hQ : ∀ M', qr_C M' c (C.1, C.2.1 ++ [(a, s, w, h, none)], C.2.2) → mv_off (qf_C c) M M' → Q (some (.inl (C.2.1.length : Int))) M') : E_X1_newQuote [.inr (1, c), .inl (a : Int), .inl (s : Int), .inl (w : Int), .inl (h : Int)] M Q := by
  refine ev_X1_newQuote ?_
  refine go_X1_newQuote [] 60 ?_
  have e3 := hC.2.1
  refine And.intro (fun c1 => ?_) (fun c1 => absurd c1 (by omega))
  refine And.intro (by omega) ?_
  refine And.intro (Or.inl rfl) ?_
  refine And.intro (by simp [mv_up]; omega) ?_
  refine And.intro (by simp [mv_up]; omega) ?_
  have hz : ∀ M', qr_C M' c (C.1, C.2.1 ++ [(a, s, w, h, none)], C.2.2) → mv_off (qf_C c) M M' → M'.1 1 c 4 - 1 = (C.2.1.length : Int) → Q (some (.inl (M'.1 1 c 4 - 1))) M' := fun M' h1 h2 h3 => by rw [h3]; exact hQ M' h1 h2
  have e : (M.1 1 c 4).toNat = C.2.1.length := by omega
  have hf : qf_C c 5 (8 * c + (M.1 1 c 4).toNat) := by rw [e]; unfold qf_C; omega
  refine hz _ ⟨?_, ?_, ?_, ?_, ?_, ?_, ?_⟩ ((((((mv_off.rf.up hf).up hf).up hf).up hf).up hf).up (Or.inl ⟨rfl, rfl⟩)) ?_
  · simpa [mv_up] using hC.1
  · simp [mv_up, e3]
  · intro i q hq
    exact (hC.2.2.1 i q hq).fr (fun k => by simp [mv_up]) (fun k => by simp [mv_up])
  · intro i q hq
    have ha2 : (C.2.1 ++ [(a, s, w, h, none)])[i]? = some q := hq
    by_cases h1 : i < C.2.1.length
    · rw [List.getElem?_append_left h1] at ha2
      have hne : ¬ i = (M.1 1 c 4).toNat := by omega
      exact (hC.2.2.2.1 i q ha2).fr (fun k => by simp [mv_up, hne])
    · rw [List.getElem?_append_right (by omega)] at ha2
      have h0 : i = C.2.1.length := by
        have := (List.getElem?_eq_some_iff.mp ha2).1
        simp at this
        omega
      subst h0
      simp at ha2
      subst ha2
      rw [e]
      refine ⟨?_, ?_, ?_, ?_, ?_⟩ <;> simp [mv_up, qr_P]
  · simpa [mv_up] using hC.2.2.2.2.1
  · simpa [mv_up] using hC.2.2.2.2.2.1
  · simpa [mv_up] using hC.2.2.2.2.2.2
  · simp [mv_up, e3]
/-- how many quotes are placed -/
def qg_placed (qs : List qg_Q) : Nat := (qs.filter (fun q => q.2.2.2.2.isSome)).length
theorem qg_placed_snoc (qs : List qg_Q) (q : qg_Q) : qg_placed (qs ++ [q]) = qg_placed qs + (if q.2.2.2.2.isSome then 1 else 0) := by
  unfold qg_placed
  rw [List.filter_append, List.length_append]
  cases h : q.2.2.2.2.isSome <;> simp [h]
theorem qg_placed_le (qs : List qg_Q) : qg_placed qs ≤ qs.length := List.length_filter_le _ _
set_option maxRecDepth 100000 in
theorem sp_X1_placedQuotes {c : Nat} {C : qg_C} {M : mv_M} {Q : mv_R} (hC : qr_C M c C) (hw : C.2.1.length ≤ 8) (h : Q (some (.inl (qg_placed C.2.1 : Int))) M) : E_X1_placedQuotes [.inr (1, c)] M Q := by
  refine ev_X1_placedQuotes ?_
  refine go_X1_placedQuotes [4] 50 ?_
  have hl : ∀ (i : Nat) (s : Unit), i ≤ C.2.1.length → J_X1_placedQuotes Q 4 [some (.inr (1, c)), some (.inl (qg_placed (C.2.1.take i) : Int)), some (.inl (i : Int))] [] M := by
    refine mv_loop C.2.1.length (fun i _ hi ih => ?_)
    refine go_X1_placedQuotes [4] 50 ?_
    have e4 := hC.2.1
    refine And.intro (fun c1 => ?_) (fun c1 => ?_)
    · have hi2 : i = C.2.1.length := by omega
      subst hi2
      rw [List.take_length]
      exact h
    · have hlt : i < C.2.1.length := by omega
      obtain ⟨q, hq⟩ := qg_some hlt
      have hr := hC.2.2.2.1 i q hq
      have hP := hr.2.2.2.2
      have ih' := ih () hlt
      have hle := qg_placed_le (C.2.1.take i)
      rw [List.length_take] at hle
      rw [qg_take hq, qg_placed_snoc] at ih'
      refine And.intro (by omega) ?_
      refine And.intro (fun c2 => ?_) (fun c2 => ?_)
      · refine And.intro (by omega) ?_
        cases ho : q.2.2.2.2 with
        | none => rw [ho] at ih'; exact ih'
        | some p =>
          rw [ho] at hP
          have : M.1 5 (8 * c + (i : Int).toNat) 4 = 1 := hP.1
          omega
      · refine And.intro (by omega) ?_
        refine And.intro (by omega) ?_
        cases ho : q.2.2.2.2 with
        | none =>
          rw [ho] at hP
          exact absurd hP c2
        | some p => rw [ho] at ih'; exact ih'
  exact hl 0 () (Nat.zero_le _)
/-- how far a page leans to the left -/
def qg_leanQ (p : Nat) (q : qg_Q) : Int := match q.2.2.2.2 with
  | none => 0
  | some o => if o.1 = p then qg_lean q.2.2.1 q.2.2.2.1 o.2.1 else 0
def qg_leanS (qs : List qg_Q) (p : Nat) : Int := (qs.map (qg_leanQ p)).sum
def qg_bal (qs : List qg_Q) (p : Nat) : Int := if 0 ≤ qg_leanS qs p then qg_leanS qs p else -qg_leanS qs p
theorem qg_leanS_snoc (qs : List qg_Q) (p : Nat) (q : qg_Q) : qg_leanS (qs ++ [q]) p = qg_leanS qs p + qg_leanQ p q := by
  simp [qg_leanS]
theorem qg_leanQ_b {p : Nat} {q : qg_Q} (hw : qg_wQ q) : -18 ≤ qg_leanQ p q ∧ qg_leanQ p q ≤ 18 := by
  unfold qg_leanQ
  split
  · omega
  · split
    · exact qg_lean_b hw.2.1 hw.2.2.2.1
    · omega
theorem qg_leanS_b (p : Nat) : ∀ qs : List qg_Q, (∀ q ∈ qs, qg_wQ q) → -18 * (qs.length : Int) ≤ qg_leanS qs p ∧ qg_leanS qs p ≤ 18 * (qs.length : Int)
  | [], _ => by simp [qg_leanS]
  | q :: qs, hw => by
    have h1 := qg_leanS_b p qs (fun x hx => hw x (List.mem_cons_of_mem _ hx))
    have h2 := qg_leanQ_b (p := p) (hw q List.mem_cons_self)
    have e : qg_leanS (q :: qs) p = qg_leanQ p q + qg_leanS qs p := by simp [qg_leanS]
    rw [e, List.length_cons]
    omega
set_option maxRecDepth 100000 in
theorem sp_X1_balanceOf {c p : Nat} {C : qg_C} {M : mv_M} {Q : mv_R} (hC : qr_C M c C) (hw : C.2.1.length ≤ 8) (hwq : ∀ q ∈ C.2.1, qg_wQ q) (h : Q (some (.inl (qg_bal C.2.1 p))) M) : E_X1_balanceOf [.inr (1, c), .inl (p : Int)] M Q := by
  refine ev_X1_balanceOf ?_
  refine go_X1_balanceOf [4] 50 ?_
  have hl : ∀ (i : Nat) (s : Unit), i ≤ C.2.1.length → J_X1_balanceOf Q 4 [some (.inr (1, c)), some (.inl (p : Int)), some (.inl (qg_leanS (C.2.1.take i) p)), some (.inl (i : Int))] [] M := by
    refine mv_loop C.2.1.length (fun i _ hi ih => ?_)
    refine go_X1_balanceOf [4] 50 ?_
    have e4 := hC.2.1
    have hb := qg_leanS_b p (C.2.1.take i) (fun x hx => hwq x (List.mem_of_mem_take hx))
    rw [List.length_take] at hb
    have hmin : min i C.2.1.length = i := by omega
    rw [hmin] at hb
    refine And.intro (fun c1 => ?_) (fun c1 => ?_)
    · have hi2 : i = C.2.1.length := by omega
      subst hi2
      rw [List.take_length] at hb ⊢
      refine And.intro (by omega) ?_
      exact h
    · have hlt : i < C.2.1.length := by omega
      obtain ⟨q, hq⟩ := qg_some hlt
      have hwq1 := hwq q (List.mem_of_getElem? hq)
      have hr := hC.2.2.2.1 i q hq
      have hP := hr.2.2.2.2
      have ih' := ih () hlt
      rw [qg_take hq, qg_leanS_snoc] at ih'
      refine And.intro (by omega) ?_
      refine And.intro (fun c2 => ?_) (fun c2 => ?_)
      · refine And.intro (by omega) ?_
        cases ho : q.2.2.2.2 with
        | none =>
          have : qg_leanQ p q = 0 := by unfold qg_leanQ; rw [ho]
          rw [this, Int.add_zero] at ih'
          exact ih'
        | some o =>
          rw [ho] at hP
          have : M.1 5 (8 * c + (i : Int).toNat) 4 = 1 := hP.1
          omega
      · refine And.intro (by omega) ?_
        cases ho : q.2.2.2.2 with
        | none =>
          rw [ho] at hP
          exact absurd hP c2
        | some o =>
          rw [ho] at hP
          have e5 : M.1 5 (8 * c + (i : Int).toNat) 5 = (o.1 : Int) := hP.2.1
          refine And.intro (fun c3 => ?_) (fun c3 => ?_)
          · refine And.intro (by omega) ?_
            have hne : ¬ o.1 = p := by omega
            have : qg_leanQ p q = 0 := by unfold qg_leanQ; rw [ho]; exact if_neg hne
            rw [this, Int.add_zero] at ih'
            exact ih'
          · refine And.intro (by omega) ?_
            refine sp_X5_leaning hr hwq1 ho ?_
            have heq : o.1 = p := by omega
            have e6 : qg_leanQ p q = qg_lean q.2.2.1 q.2.2.2.1 o.2.1 := by unfold qg_leanQ; rw [ho]; exact if_pos heq
            have hb2 := qg_leanQ_b (p := p) hwq1
            rw [e6] at ih' hb2
            refine And.intro (by omega) ?_
            refine And.intro (by omega) ?_
            exact ih'
  exact hl 0 () (Nat.zero_le _)
def qg_unrest (qs : List qg_Q) : Int := qg_bal qs 0 + qg_bal qs 1 + qg_bal qs 2
theorem qg_bal_b {p : Nat} {qs : List qg_Q} (hl : qs.length ≤ 8) (hw : ∀ q ∈ qs, qg_wQ q) : 0 ≤ qg_bal qs p ∧ qg_bal qs p ≤ 144 := by
  have h := qg_leanS_b p qs hw
  unfold qg_bal
  split <;> omega
set_option maxRecDepth 100000 in
theorem sp_X1_unrest {c : Nat} {C : qg_C} {M : mv_M} {Q : mv_R} (hC : qr_C M c C) (hw : C.2.1.length ≤ 8) (hwq : ∀ q ∈ C.2.1, qg_wQ q) (h : Q (some (.inl (qg_unrest C.2.1))) M) : E_X1_unrest [.inr (1, c)] M Q := by
  refine ev_X1_unrest ?_
  refine go_X1_unrest [] 90 ?_
  have b0 := qg_bal_b (p := 0) hw hwq
  have b1 := qg_bal_b (p := 1) hw hwq
  have b2 := qg_bal_b (p := 2) hw hwq
  refine And.intro (fun c1 => absurd c1 (by decide)) (fun _ => ?_)
  refine sp_X1_balanceOf (p := 0) hC hw hwq ?_
  refine And.intro (by omega) (And.intro (by omega) ?_)
  refine And.intro (fun c1 => absurd c1 (by decide)) (fun _ => ?_)
  refine sp_X1_balanceOf (p := 1) hC hw hwq ?_
  refine And.intro (by omega) (And.intro (by omega) ?_)
  refine And.intro (fun c1 => absurd c1 (by decide)) (fun _ => ?_)
  refine sp_X1_balanceOf (p := 2) hC hw hwq ?_
  refine And.intro (by omega) (And.intro (by omega) ?_)
  refine And.intro (fun _ => ?_) (fun c1 => absurd c1 (by decide))
  have e : qg_unrest C.2.1 = 0 + qg_bal C.2.1 0 + qg_bal C.2.1 1 + qg_bal C.2.1 2 := by unfold qg_unrest; omega
  rw [e] at h
  exact h
