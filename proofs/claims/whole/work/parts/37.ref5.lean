/-! The reference: reasons for refused places, the best place. -/
theorem rq_C.put {f g : Nat → Int} {n : Nat} {C : qg_C} {q : qg_Q} {o : Option (Nat × Nat × Nat)} (h : rq_C f C) (hw : qg_wC C) (hq : C.2.1[n]? = some q) (hP : rq_P g (71 + 8 * n) o) (h0 : ∀ k, ¬ (71 + 8 * n + 4 ≤ k ∧ k < 71 + 8 * n + 8) → g k = f k) : rq_C g (qg_put C n o) := by
  have hn := (List.getElem?_eq_some_iff.mp hq).1
  have hr := h.2.2.2.1 n q hq
  rw [qg_put_eq hq]
  refine h.setQ hw hn ⟨(h0 _ (by omega)).trans hr.1, (h0 _ (by omega)).trans hr.2.1, (h0 _ (by omega)).trans hr.2.2.1, (h0 _ (by omega)).trans hr.2.2.2.1, hP⟩ (fun k hk => h0 k (by omega))
theorem qg_put_self {C : qg_C} {n : Nat} {q : qg_Q} (hq : C.2.1[n]? = some q) : qg_put C n q.2.2.2.2 = C := by
  rw [qg_put_eq hq]
  have hn := (List.getElem?_eq_some_iff.mp hq)
  have e : C.2.1.set n (qg_mv q q.2.2.2.2) = C.2.1 := by
    apply List.ext_getElem?
    intro i
    by_cases hi : n = i
    · subst hi
      rw [List.getElem?_set_self hn.1, hq]
    · rw [List.getElem?_set_ne hi]
  rw [e]
set_option maxRecDepth 100000 in
theorem sp_X11_isNear {n : Nat} {q : qg_Q} {p : Nat × Nat × Nat} {C : qg_C} {x : Int} {M : mv_M} {Q : mv_R} (ex : x = (n : Int)) (hC : rq_C (M.1 24 0) C) (hw : qg_wC C) (hq : C.2.1[n]? = some q) (hp : q.2.2.2.2 = some p) (h1 : qg_near C n → Q (some (.inl 1)) M) (h0 : ¬ qg_near C n → Q (some (.inl 0)) M) : E_X11_isNear [.inr (11, 0), .inl x] M Q := by
  subst ex
  refine ev_X11_isNear ?_
  refine go_X11_isNear [4] 60 ?_
  have hn := (List.getElem?_eq_some_iff.mp hq).1
  have w2 := hw.2.1
  have e1 := hC.n1
  have e4 := hC.n4
  have hr := hC.2.2.2.1 n q hq
  have hP := hr.2.2.2.2
  rw [hp] at hP
  have hwq := (hw.2.2.2.1 q (List.mem_of_getElem? hq)).1
  obtain ⟨P, hPd⟩ : ∃ P : Nat → Prop, P = fun j => ∃ (r : qg_Q) (o : Nat × Nat × Nat), j ≠ n ∧ C.2.1[j]? = some r ∧ r.2.2.2.2 = some o ∧ o.1 = p.1 ∧ qg_qd q r p o < C.2.2.2.2 := ⟨_, rfl⟩
  have hl : ∀ (i : Nat) (x : Int), i ≤ C.2.1.length → rq_bx P i x → J_X11_isNear Q 4 [some (.inr (11, 0)), some (.inl (n : Int)), some (.inl x), some (.inl (i : Int))] [] M := by
    refine mv_loop C.2.1.length (fun i x hi ih hI => ?_)
    have yes : i < C.2.1.length → rq_bx P (i + 1) 1 → J_X11_isNear Q 61 [some (.inr (11, 0)), some (.inl (n : Int)), some (.inl x), some (.inl (i : Int))] [] M := by
      intro hlt hb
      refine go_X11_isNear [4] 60 ?_
      exact And.intro (by omega) (ih 1 hlt hb)
    have no : i < C.2.1.length → rq_bx P (i + 1) 0 → J_X11_isNear Q 65 [some (.inr (11, 0)), some (.inl (n : Int)), some (.inl x), some (.inl (i : Int))] [] M := by
      intro hlt hb
      refine go_X11_isNear [4] 60 ?_
      exact And.intro (by omega) (ih 0 hlt hb)
    refine go_X11_isNear [4, 61, 65] 60 ?_
    refine And.intro (by omega) ?_
    refine And.intro (fun c1 => ?_) (fun c1 => ?_)
    · subst hPd
      rcases hI with ⟨rfl, j, hj, r, o, z1, z2, z3, z4, z5⟩ | ⟨rfl, hn⟩
      · exact And.intro (Or.inr rfl) (h1 ⟨j, q, r, p, o, z1, hq, z2, hp, z3, z4, z5⟩)
      · refine And.intro (Or.inl rfl) (h0 ?_)
        rintro ⟨j, q', r, p', o, z1, z2, z3, z4, z5, z6, z7⟩
        rw [hq] at z2
        cases z2
        rw [hp] at z4
        cases z4
        have := (List.getElem?_eq_some_iff.mp z3).1
        exact hn j (by omega) ⟨r, o, z1, z3, z5, z6, z7⟩
    · have hlt : i < C.2.1.length := by omega
      obtain ⟨r, hri⟩ := qg_some hlt
      have hrr := hC.2.2.2.1 i r hri
      have hO := hrr.2.2.2.2
      have hwr := (hw.2.2.2.1 r (List.mem_of_getElem? hri)).1
      refine And.intro (fun c2 => yes hlt (hI.keep c2)) (fun c2 => ?_)
      have nox : (∀ o, r.2.2.2.2 = some o → i ≠ n → o.1 = p.1 → ¬ qg_qd q r p o < C.2.2.2.2) → rq_bx P (i + 1) 0 := by
        intro hx
        refine hI.no c2 ?_
        subst hPd
        rintro ⟨r', o, z1, z2, z3, z4, z5⟩
        rw [hri] at z2
        cases z2
        exact hx o z3 z1 z4 z5
      refine And.intro (fun c3 => no hlt (nox (fun o _ z => absurd (by omega) z))) (fun c3 => ?_)
      refine sp_X11_isPlaced rfl (by omega) hrr (fun o ho => mv_t ?_) (fun ho => mv_f (no hlt (nox (fun o z => by rw [ho] at z; cases z))))
      rw [ho] at hO
      refine sp_X11_ofQuote (p := 5) rfl rfl (by omega) hO.2.1 ?_
      refine sp_X11_ofQuote (p := 5) rfl rfl (by omega) hP.2.1 ?_
      refine And.intro (fun c4 => no hlt (nox (fun o2 z2 _ z4 => ?_))) (fun c4 => ?_)
      · rw [ho] at z2
        cases z2
        omega
      · refine sp_X11_between rfl rfl (by omega) (by omega) hr hwq hp hrr hwr ho ?_
        refine And.intro (by omega) ?_
        rw [e4]
        refine And.intro (fun c5 => no hlt (nox (fun o2 z2 _ z4 => ?_))) (fun c5 => yes hlt (rq_bx.yes ?_))
        · rw [ho] at z2
          cases z2
          omega
        · subst hPd
          exact ⟨r, o, by omega, hri, ho, by omega, by omega⟩
  exact hl 0 0 (by omega) rq_bx.z
set_option maxRecDepth 100000 in
theorem sp_X11_isWrongForOthers {n : Nat} {C : qg_C} {x : Int} {M : mv_M} {Q : mv_R} (ex : x = (n : Int)) (hC : rq_C (M.1 24 0) C) (hw : qg_wC C) (hL : rq_L M C) (h1 : qg_badO C n → Q (some (.inl 1)) M) (h0 : ¬ qg_badO C n → Q (some (.inl 0)) M) : E_X11_isWrongForOthers [.inr (11, 0), .inl x] M Q := by
  subst ex
  refine ev_X11_isWrongForOthers ?_
  refine go_X11_isWrongForOthers [4] 60 ?_
  have w2 := hw.2.1
  have e1 := hC.n1
  obtain ⟨P, hPd⟩ : ∃ P : Nat → Prop, P = fun j => ∃ (r : qg_Q), j ≠ n ∧ C.2.1[j]? = some r ∧ qg_bad C r := ⟨_, rfl⟩
  have hl : ∀ (i : Nat) (x : Int), i ≤ C.2.1.length → rq_bx P i x → J_X11_isWrongForOthers Q 4 [some (.inr (11, 0)), some (.inl (n : Int)), some (.inl x), some (.inl (i : Int))] [] M := by
    refine mv_loop C.2.1.length (fun i x hi ih hI => ?_)
    have yes : i < C.2.1.length → rq_bx P (i + 1) 1 → J_X11_isWrongForOthers Q 39 [some (.inr (11, 0)), some (.inl (n : Int)), some (.inl x), some (.inl (i : Int))] [] M := by
      intro hlt hb
      refine go_X11_isWrongForOthers [4] 60 ?_
      exact And.intro (by omega) (ih 1 hlt hb)
    have no : i < C.2.1.length → rq_bx P (i + 1) 0 → J_X11_isWrongForOthers Q 43 [some (.inr (11, 0)), some (.inl (n : Int)), some (.inl x), some (.inl (i : Int))] [] M := by
      intro hlt hb
      refine go_X11_isWrongForOthers [4] 60 ?_
      exact And.intro (by omega) (ih 0 hlt hb)
    refine go_X11_isWrongForOthers [4, 39, 43] 60 ?_
    refine And.intro (by omega) ?_
    refine And.intro (fun c1 => ?_) (fun c1 => ?_)
    · subst hPd
      rcases hI with ⟨rfl, j, hj, r, z1, z2, z3⟩ | ⟨rfl, hn⟩
      · exact And.intro (Or.inr rfl) (h1 ⟨j, r, z1, z2, z3⟩)
      · refine And.intro (Or.inl rfl) (h0 ?_)
        rintro ⟨j, r, z1, z2, z3⟩
        have := (List.getElem?_eq_some_iff.mp z2).1
        exact hn j (by omega) ⟨r, z1, z2, z3⟩
    · have hlt : i < C.2.1.length := by omega
      obtain ⟨r, hri⟩ := qg_some hlt
      have hrr := hC.2.2.2.1 i r hri
      refine And.intro (fun c2 => yes hlt (hI.keep c2)) (fun c2 => ?_)
      have nox : (i ≠ n → ¬ qg_bad C r) → rq_bx P (i + 1) 0 := by
        intro hx
        refine hI.no c2 ?_
        subst hPd
        rintro ⟨r', z1, z2, z3⟩
        rw [hri] at z2
        cases z2
        exact hx z1 z3
      refine And.intro (fun c3 => no hlt (nox (fun z => absurd (by omega) z))) (fun c3 => ?_)
      refine sp_X11_isPlaced rfl (by omega) hrr (fun o ho => mv_t ?_) (fun ho => mv_f (no hlt (nox (fun _ => qg_bad_placed ho))))
      refine sp_X11_isWrongFromSentence rfl hC hw hL hri ho (fun z => mv_t (yes hlt (rq_bx.yes ?_))) (fun z => mv_f (no hlt (nox (fun _ => z))))
      subst hPd
      exact ⟨r, by omega, hri, z⟩
  exact hl 0 0 (by omega) rq_bx.z
set_option maxRecDepth 100000 in
theorem sp_X11_reasonOf {n : Nat} {p : Nat × Nat × Nat} {C : qg_C} {q : qg_Q} {x : Int} {M : mv_M} {Q : mv_R} (ex : x = (n : Int)) (hw : qg_wC C) (hin : qg_inC C) (hq : C.2.1[n]? = some q) (hok : qg_okp (some p)) (hC : rq_C (M.1 24 0) (qg_put C n (some p))) (hB : ∀ i, i < C.1.length → M.1 32 0 i = (qg_ov (qg_put C n none) i : Int))
    (h : ∀ M', rr_of rf_lay M M' → Q (some (.inl (qg_reason C n p))) M') : E_X11_reasonOf [.inr (11, 0), .inl x] M Q := by
  subst ex
  refine ev_X11_reasonOf ?_
  refine go_X11_reasonOf [] 60 ?_
  have hn := (List.getElem?_eq_some_iff.mp hq).1
  have w2 := hw.2.1
  have w1 := hw.1
  have hwD := qg_wC_put hw n hok
  have hqD := qg_put_at hq (some p)
  have hr := hC.2.2.2.1 n _ hqD
  have hP : rq_P (M.1 24 0) (71 + 8 * n) (some p) := hr.2.2.2.2
  have hwq := (hw.2.2.2.1 q (List.mem_of_getElem? hq)).1
  have v1 := hwq.1
  have v2 := hwq.2.1
  have v3 := hwq.2.2.1
  have v4 := hwq.2.2.2.1
  have p3 := hok p rfl
  have hW : M.1 24 0 (71 + 8 * n + 2) = (q.2.2.1 : Int) := hr.2.2.1
  have hH : M.1 24 0 (71 + 8 * n + 3) = (q.2.2.2.1 : Int) := hr.2.2.2.1
  have h24 : ∀ k, ¬ rf_lay 24 k := fun k z => by unfold rf_lay at z; omega
  have out : qg_out C n p → Q (some (.inl 1)) M := by
    intro z
    have := h M rr_of.rf
    unfold qg_reason at this
    rw [qg_if_pos z] at this
    exact this
  refine sp_X11_ofQuote (p := 6) rfl rfl (by omega) hP.2.2.1 ?_
  refine sp_X11_ofQuote (p := 2) rfl rfl (by omega) hW ?_
  refine And.intro (by omega) ?_
  refine And.intro (fun c1 => out ⟨q, hq, by omega⟩) (fun c1 => ?_)
  refine sp_X11_ofQuote (p := 7) rfl rfl (by omega) hP.2.2.2 ?_
  refine sp_X11_ofQuote (p := 3) rfl rfl (by omega) hH ?_
  refine And.intro (by omega) ?_
  refine And.intro (fun c2 => ?_) (fun c2 => out ⟨q, hq, by omega⟩)
  have nout : ¬ qg_out C n p := by
    rintro ⟨q2, z1, z2⟩
    rw [hq] at z1
    cases z1
    omega
  have hinD : qg_inC (qg_put C n (some p)) := qg_inC_put hin (fun x hx => by cases hx; exact nout)
  unfold qg_reason at h
  rw [qg_if_neg nout] at h
  refine sp_X11_isNear rfl hC hwD hqD rfl (fun c3 => mv_t ?_) (fun c3 => mv_f ?_)
  · rw [qg_if_pos c3] at h
    exact h M rr_of.rf
  rw [qg_if_neg c3] at h
  refine sp_X11_layOut hC hwD hinD (fun M1 hL1 hO1 => ?_)
  have hC1 := hC.of hwD hO1 h24
  refine sp_X11_isMoreOver (B := qg_put C n none) hC1 hwD hL1 (fun i hi => ?_) (fun c4 => mv_t ?_) (fun c4 => mv_f ?_)
  · rw [qg_put_1] at hi
    exact (hO1.1 32 0 i (by unfold rf_lay; omega)).trans (hB i hi)
  · rw [qg_if_pos c4] at h
    exact h M1 hO1
  rw [qg_if_neg c4] at h
  obtain ⟨A, hA, hs⟩ := (hwD.2.2.2.1 _ (List.mem_of_getElem? hqD)).2
  have ha := (List.getElem?_eq_some_iff.mp hA).1
  have hA : (qg_put C n (some p)).1[q.1]? = some A := hA
  have ha : q.1 < (qg_put C n (some p)).1.length := ha
  have ha6 : q.1 < 6 := by have := hwD.1; omega
  have hr1 := hC1.2.2.2.1 n _ hqD
  have hP1 : rq_P (M1.1 24 0) (71 + 8 * n) (some p) := hr1.2.2.2.2
  refine sp_X11_ofQuote (p := 0) rfl rfl (by omega) (v := (q.1 : Int)) hr1.1 ?_
  refine sp_X11_ofQuote (p := 5) rfl rfl (by omega) hP1.2.1 ?_
  have hF := hL1.at ha
  rw [qg_len_at hA] at hF
  refine sp_X11_hasLineOn rfl rfl ha6 (hC1.2.2.1 q.1 A hA) hF (fun c5 => mv_nt ?_) (fun c5 => mv_nf ?_)
  · have c5' : qg_line (qg_put C n (some p)) n p.1 := ⟨_, hqD, c5⟩
    rw [qg_if_neg (fun z => z c5')] at h
    refine sp_X11_isWrongFromSentence rfl hC1 hwD hL1 hqD rfl (fun c6 => mv_t ?_) (fun c6 => mv_f ?_)
    · rw [qg_if_pos ⟨_, hqD, c6⟩] at h
      exact h M1 hO1
    · rw [qg_if_neg (fun ⟨q2, z1, z2⟩ => by rw [hqD] at z1; cases z1; exact c6 z2)] at h
      refine sp_X11_isWrongForOthers rfl hC1 hwD hL1 (fun c7 => mv_t ?_) (fun c7 => mv_f ?_)
      · rw [qg_if_pos c7] at h
        exact h M1 hO1
      · rw [qg_if_neg c7] at h
        exact h M1 hO1
  · have c5' : ¬ qg_line (qg_put C n (some p)) n p.1 := by
      rintro ⟨q2, z1, z2⟩
      rw [hqD] at z1
      cases z1
      exact c5 z2
    rw [qg_if_pos c5'] at h
    exact h M1 hO1
set_option maxRecDepth 100000 in
theorem sp_X11_put0 {n : Nat} {x y z w : Int} {M : mv_M} {Q : mv_R} (ex : x = (n : Int)) (hn : n < 8)
    (h : ∀ M', M'.1 24 0 (71 + 8 * n + 4) = 1 → M'.1 24 0 (71 + 8 * n + 5) = y → M'.1 24 0 (71 + 8 * n + 6) = z → M'.1 24 0 (71 + 8 * n + 7) = w → rr_of (rf_put n) M M' → Q none M') : E_X11_put [.inr (11, 0), .inl x, .inl y, .inl z, .inl w] M Q := by
  subst ex
  refine ev_X11_put ?_
  refine go_X11_put [] 60 ?_
  refine sp_X11_setQuote (p := 4) rfl rfl (by omega) ?_
  refine sp_X11_setQuote (p := 5) rfl rfl (by omega) ?_
  refine sp_X11_setQuote (p := 6) rfl rfl (by omega) ?_
  refine sp_X11_setQuote (p := 7) rfl rfl (by omega) ?_
  refine h _ ?_ ?_ ?_ ?_ ((((rr_of.rf.up ?_).up ?_).up ?_).up ?_)
  · simp [mv_up]
  · simp [mv_up]
  · simp [mv_up]
  · simp [mv_up]
  all_goals (unfold rf_put; omega)
/-- where the quote was -/
def rq_W (M : mv_M) (o : Option (Nat × Nat × Nat)) : Prop := match o with
  | none => M.1 11 0 12 = 0
  | some p => M.1 11 0 12 = 1 ∧ M.1 11 0 13 = (p.1 : Int) ∧ M.1 11 0 14 = (p.2.1 : Int) ∧ M.1 11 0 15 = (p.2.2 : Int)
theorem rq_W.fr {M M' : mv_M} {o : Option (Nat × Nat × Nat)} (h : rq_W M o) (h0 : ∀ k, 12 ≤ k → k ≤ 15 → M'.1 11 0 k = M.1 11 0 k) : rq_W M' o := by
  cases o with
  | none => exact (h0 12 (by omega) (by omega)).trans h
  | some p => exact ⟨(h0 12 (by omega) (by omega)).trans h.1, (h0 13 (by omega) (by omega)).trans h.2.1, (h0 14 (by omega) (by omega)).trans h.2.2.1, (h0 15 (by omega) (by omega)).trans h.2.2.2⟩
def rf_try (n t k : Nat) : Prop := 28 ≤ t ∨ (t = 11 ∧ 12 ≤ k) ∨ rf_put n t k
set_option maxRecDepth 100000 in
theorem sp_X11_takeUp {n : Nat} {C : qg_C} {q : qg_Q} {x : Int} {M : mv_M} {Q : mv_R} (ex : x = (n : Int)) (hC : rq_C (M.1 24 0) C) (hw : qg_wC C) (hin : qg_inC C) (hq : C.2.1[n]? = some q)
    (h : ∀ M', rq_C (M'.1 24 0) (qg_put C n none) → rq_W M' q.2.2.2.2 → (∀ i, i < C.1.length → M'.1 32 0 i = (qg_ov (qg_put C n none) i : Int)) → rr_of (rf_try n) M M' → (∀ k, k ≥ 16 → M'.1 11 0 k = M.1 11 0 k) → Q none M') : E_X11_takeUp [.inr (11, 0), .inl x] M Q := by
  subst ex
  refine ev_X11_takeUp ?_
  refine go_X11_takeUp [] 60 ?_
  have hn := (List.getElem?_eq_some_iff.mp hq).1
  have w2 := hw.2.1
  have hP := (hC.2.2.2.1 n q hq).2.2.2.2
  obtain ⟨a, ha⟩ : ∃ a, M.1 24 0 (71 + 8 * n + 4) = a := ⟨_, rfl⟩
  obtain ⟨b, hb⟩ : ∃ b, M.1 24 0 (71 + 8 * n + 5) = b := ⟨_, rfl⟩
  obtain ⟨c, hc⟩ : ∃ c, M.1 24 0 (71 + 8 * n + 6) = c := ⟨_, rfl⟩
  obtain ⟨d, hd⟩ : ∃ d, M.1 24 0 (71 + 8 * n + 7) = d := ⟨_, rfl⟩
  refine sp_X11_ofQuote (p := 4) rfl rfl (by omega) ha ?_
  refine sp_X11_ofQuote (p := 5) rfl rfl (by omega) ((mv_nep (by omega)).trans hb) ?_
  refine sp_X11_ofQuote (p := 6) rfl rfl (by omega) ((mv_nep (by omega)).trans ((mv_nep (by omega)).trans hc)) ?_
  refine sp_X11_ofQuote (p := 7) rfl rfl (by omega) ((mv_nep (by omega)).trans ((mv_nep (by omega)).trans ((mv_nep (by omega)).trans hd))) ?_
  refine sp_X11_setQuote (p := 4) rfl rfl (by omega) ?_
  obtain ⟨M1, hM1⟩ : ∃ M1 : mv_M, M1 = (mv_up (mv_up (mv_up (mv_up (mv_up M.1 11 0 12 a) 11 0 13 b) 11 0 14 c) 11 0 15 d) 24 0 (71 + 8 * n + 4) 0, M.2) := ⟨_, rfl⟩
  have hO1 : rr_of (rf_try n) M M1 := by
    rw [hM1]
    exact ((((rr_of.rf.up (by unfold rf_try; omega)).up (by unfold rf_try; omega)).up (by unfold rf_try; omega)).up (by unfold rf_try; omega)).up (by unfold rf_try rf_put; omega)
  have hC1 : rq_C (M1.1 24 0) (qg_put C n none) := by
    refine hC.put hw hq ?_ (fun k hk => ?_)
    · show M1.1 24 0 (71 + 8 * n + 4) = 0
      rw [hM1]
      exact mv_eqp
    · rw [hM1]
      exact (mv_nep (by omega)).trans ((mv_up_ne (by omega)).trans ((mv_up_ne (by omega)).trans ((mv_up_ne (by omega)).trans (mv_up_ne (by omega)))))
  have g12 : M1.1 11 0 12 = a := by rw [hM1]; simp [mv_up]
  have g13 : M1.1 11 0 13 = b := by rw [hM1]; simp [mv_up]
  have g14 : M1.1 11 0 14 = c := by rw [hM1]; simp [mv_up]
  have g15 : M1.1 11 0 15 = d := by rw [hM1]; simp [mv_up]
  have g16 : ∀ k, k ≥ 16 → M1.1 11 0 k = M.1 11 0 k := fun k hk => by
    rw [hM1]
    exact (mv_nep (by omega)).trans ((mv_up_ne (by omega)).trans ((mv_up_ne (by omega)).trans ((mv_up_ne (by omega)).trans (mv_up_ne (by omega)))))
  have hW1 : rq_W M1 q.2.2.2.2 := by
    cases ho : q.2.2.2.2 with
    | none =>
      rw [ho] at hP
      exact g12.trans (ha.symm.trans hP)
    | some p =>
      rw [ho] at hP
      exact ⟨g12.trans (ha.symm.trans hP.1), g13.trans (hb.symm.trans hP.2.1), g14.trans (hc.symm.trans hP.2.2.1), g15.trans (hd.symm.trans hP.2.2.2)⟩
  show E_X11_noteOver [.inr (11, 0)] (mv_up (mv_up (mv_up (mv_up (mv_up M.1 11 0 12 a) 11 0 13 b) 11 0 14 c) 11 0 15 d) 24 0 (71 + 8 * n + 4) 0, M.2) _
  rw [← hM1]
  have hwD := qg_wC_put hw n qg_okp_none
  refine sp_X11_noteOver hC1 hwD (qg_inC_put hin (fun x hx => by cases hx)) (fun M2 h32 hO2 => ?_)
  refine h M2 (hC1.of hwD hO2 (fun k z => by unfold rf_note at z; omega)) (hW1.fr (fun k _ _ => hO2.1 11 0 k (by unfold rf_note; omega))) (fun i hi => h32 i (by rw [qg_put_1]; exact hi)) (hO1.tr (hO2.wk (fun t k z => Or.inl z))) (fun k hk => (hO2.1 11 0 k (by unfold rf_note; omega)).trans (g16 k hk))
set_option maxRecDepth 100000 in
theorem sp_X11_putBack {n : Nat} {o : Option (Nat × Nat × Nat)} {x : Int} {M : mv_M} {Q : mv_R} (ex : x = (n : Int)) (hn : n < 8) (hW : rq_W M o) (h : ∀ M', rq_P (M'.1 24 0) (71 + 8 * n) o → rr_of (rf_put n) M M' → Q none M') : E_X11_putBack [.inr (11, 0), .inl x] M Q := by
  subst ex
  refine ev_X11_putBack ?_
  refine go_X11_putBack [] 60 ?_
  refine sp_X11_put0 rfl hn (fun M1 g4 g5 g6 g7 hO1 => ?_)
  have n11 : ∀ k, M1.1 11 0 k = M.1 11 0 k := fun k => hO1.1 11 0 k (by unfold rf_put; omega)
  refine sp_X11_setQuote (p := 4) rfl rfl (by omega) ?_
  refine h _ ?_ (hO1.up (by unfold rf_put; omega))
  cases o with
  | none => exact mv_eqp.trans ((n11 12).trans hW)
  | some p => exact ⟨mv_eqp.trans ((n11 12).trans hW.1), (mv_nep (by omega)).trans (g5.trans hW.2.1), (mv_nep (by omega)).trans (g6.trans hW.2.2.1), (mv_nep (by omega)).trans (g7.trans hW.2.2.2)⟩
theorem rf_put_try {n t k : Nat} (h : rf_put n t k) : rf_try n t k := Or.inr (Or.inr h)
theorem rf_lay_try {n t k : Nat} (h : rf_lay t k) : rf_try n t k := Or.inl (by unfold rf_lay at h; omega)
set_option maxRecDepth 100000 in
theorem sp_X11_refusalOf {n : Nat} {p : Nat × Nat × Nat} {C : qg_C} {q : qg_Q} {x y z w : Int} {M : mv_M} {Q : mv_R} (ex : x = (n : Int)) (ey : y = (p.1 : Int)) (ez : z = (p.2.1 : Int)) (ew : w = (p.2.2 : Int)) (hC : rq_C (M.1 24 0) C) (hw : qg_wC C) (hin : qg_inC C) (hq : C.2.1[n]? = some q) (hok : qg_okp (some p))
    (h : ∀ M', rq_C (M'.1 24 0) C → rr_of (rf_try n) M M' → Q (some (.inl (qg_reason C n p))) M') : E_X11_refusalOf [.inr (11, 0), .inl x, .inl y, .inl z, .inl w] M Q := by
  subst ex
  refine ev_X11_refusalOf ?_
  refine go_X11_refusalOf [] 60 ?_
  have hn := (List.getElem?_eq_some_iff.mp hq).1
  have w2 := hw.2.1
  have hwN := qg_wC_put hw n qg_okp_none
  refine sp_X11_takeUp rfl hC hw hin hq (fun M1 hC1 hW1 hB1 hO1 _ => ?_)
  refine sp_X11_put rfl ey ez ew (by omega) (fun M2 hP2 hO2 => ?_)
  have hqN := qg_put_at hq none
  have hC2 := hC1.put hwN hqN hP2 (fun k hk => hO2.1 24 0 k (by unfold rf_put; omega))
  rw [qg_put_put] at hC2
  refine sp_X11_reasonOf rfl hw hin hq hok hC2 (fun i hi => (hO2.1 32 0 i (by unfold rf_put; omega)).trans (hB1 i hi)) (fun M3 hO3 => ?_)
  have hW3 : rq_W M3 q.2.2.2.2 := hW1.fr (fun k _ _ => (hO3.1 11 0 k (by unfold rf_lay; omega)).trans (hO2.1 11 0 k (by unfold rf_put; omega)))
  have hwD := qg_wC_put hw n hok
  have hC3 := hC2.of hwD hO3 (fun k z => by unfold rf_lay at z; omega)
  refine sp_X11_putBack rfl (by omega) hW3 (fun M4 hP4 hO4 => ?_)
  have hC4 := hC3.put hwD (qg_put_at hq (some p)) hP4 (fun k hk => hO4.1 24 0 k (by unfold rf_put; omega))
  rw [qg_put_put, qg_put_self hq] at hC4
  exact h M4 hC4 (((hO1.tr (hO2.wk (fun t k => rf_put_try))).tr (hO3.wk (fun t k => rf_lay_try))).tr (hO4.wk (fun t k => rf_put_try)))
set_option maxRecDepth 100000 in
theorem sp_X11_best {n : Nat} {C : qg_C} {q : qg_Q} {x : Int} {M : mv_M} {Q : mv_R} (ex : x = (n : Int)) (hC : rq_C (M.1 24 0) C) (hw : qg_wC C) (hin : qg_inC C) (hq : C.2.1[n]? = some q)
    (h : ∀ M', rq_C (M'.1 24 0) C → M'.1 11 0 16 = (qg_best C n).2 → rr_of (rf_try n) M M' → Q (some (.inl (qg_best C n).1)) M') : E_X11_best [.inr (11, 0), .inl x] M Q := by
  subst ex
  refine ev_X11_best ?_
  refine go_X11_best [16] 60 ?_
  have hn := (List.getElem?_eq_some_iff.mp hq).1
  have w2 := hw.2.1
  have hwN := qg_wC_put hw n qg_okp_none
  have hl : ∀ (k : Nat) (s : mv_M × Int), k ≤ 360 → (rr_of (rf_try n) M s.1 ∧ (∃ o, qg_okp o ∧ rq_C (s.1.1 24 0) (qg_put C n o)) ∧ (∀ i, i < C.1.length → s.1.1 32 0 i = (qg_ov (qg_put C n none) i : Int)) ∧ rq_W s.1 q.2.2.2.2 ∧ s.1.1 11 0 16 = (qg_bestF C n k).2 ∧ s.2 = (qg_bestF C n k).1) →
      J_X11_best Q 16 [some (.inr (11, 0)), some (.inl (n : Int)), some (.inl s.2), some (.inl (k : Int))] [] s.1 := by
    refine mv_loop 360 (fun k s hk ih hI => ?_)
    obtain ⟨M1, b⟩ := s
    obtain ⟨hO1, ⟨o, hoo, hC1⟩, hB1, hW1, e16, eb⟩ := hI
    dsimp only at hO1 hC1 hB1 hW1 e16 eb ⊢
    refine go_X11_best [16, 60, 78] 60 ?_
    refine And.intro (fun c1 => ?_) (fun c1 => ?_)
    · have hk2 : k = 360 := by omega
      subst hk2
      refine sp_X11_putBack rfl (by omega) hW1 (fun M4 hP4 hO4 => ?_)
      have hC4 := hC1.put (qg_wC_put hw n hoo) (qg_put_at hq o) hP4 (fun k hk => hO4.1 24 0 k (by unfold rf_put; omega))
      rw [qg_put_put, qg_put_self hq] at hC4
      have hh := h M4 hC4 ((hO4.1 11 0 16 (by unfold rf_put; omega)).trans e16) (hO1.tr (hO4.wk (fun t k => rf_put_try)))
      have eb : b = (qg_best C n).1 := eb
      rw [← eb] at hh
      exact hh
    · have hk3 : k < 360 := by omega
      have e1 : (k : Int) / 120 = ((qg_at k).1 : Int) := by show _ = ((k / 120 : Nat) : Int); omega
      have e2 : (k : Int) % 120 / 20 = ((qg_at k).2.1 : Int) := by show _ = ((k % 120 / 20 : Nat) : Int); omega
      have e3 : (k : Int) % 20 = ((qg_at k).2.2 : Int) := by show _ = ((k % 20 : Nat) : Int); omega
      refine And.intro (by omega) (And.intro (by omega) (And.intro (by omega) (And.intro (by omega) ?_)))
      refine sp_X11_put rfl e1 e2 e3 (by omega) (fun M2 hP2 hO2 => ?_)
      have hok := qg_okp_at hk3
      have hwD := qg_wC_put hw n hok
      have hC2 := hC1.put (qg_wC_put hw n hoo) (qg_put_at hq o) hP2 (fun k hk => hO2.1 24 0 k (by unfold rf_put; omega))
      rw [qg_put_put] at hC2
      have hB2 : ∀ i, i < C.1.length → M2.1 32 0 i = (qg_ov (qg_put C n none) i : Int) := fun i hi => (hO2.1 32 0 i (by unfold rf_put; omega)).trans (hB1 i hi)
      have hO02 := hO1.tr (hO2.wk (fun t k => rf_put_try))
      have n11 : ∀ k, M2.1 11 0 k = M1.1 11 0 k := fun k => hO2.1 11 0 k (by unfold rf_put; omega)
      have e162 : M2.1 11 0 16 = (qg_bestF C n k).2 := (n11 16).trans e16
      have hW2 : rq_W M2 q.2.2.2.2 := hW1.fr (fun k _ _ => n11 k)
      have hwqs : ∀ r ∈ (qg_put C n (some (qg_at k))).2.1, qg_wQ r := fun r hr => (hwD.2.2.2.1 r hr).1
      have hl8 : (qg_put C n (some (qg_at k))).2.1.length ≤ 8 := hwD.2.1
      have skip : ∀ M3, rr_of rf_lay M2 M3 → ¬ (((qg_bestF C n k).1 = -99 ∨ qg_unrest (qg_put C n (some (qg_at k))).2.1 < (qg_bestF C n k).2) ∧ qg_reason C n (qg_at k) = 0) → J_X11_best Q 78 [some (.inr (11, 0)), some (.inl (n : Int)), some (.inl b), some (.inl (k : Int))] [] M3 := by
        intro M3 hO3 hno
        have n3 : ∀ k, M3.1 11 0 k = M2.1 11 0 k := fun k => hO3.1 11 0 k (by unfold rf_lay; omega)
        refine go_X11_best [16] 60 ?_
        refine And.intro (by omega) ?_
        refine ih (M3, b) hk3 ⟨hO02.tr (hO3.wk (fun t k => rf_lay_try)), ⟨_, hok, hC2.of hwD hO3 (fun k z => by unfold rf_lay at z; omega)⟩, fun i hi => (hO3.1 32 0 i (by unfold rf_lay; omega)).trans (hB2 i hi), hW2.fr (fun k _ _ => n3 k), ?_, ?_⟩
        · show M3.1 11 0 16 = (qg_bestF C n (k + 1)).2
          unfold qg_bestF
          rw [qg_if_neg hno]
          exact (n3 16).trans e162
        · show b = (qg_bestF C n (k + 1)).1
          unfold qg_bestF
          rw [qg_if_neg hno]
          exact eb
      have try60 : ((qg_bestF C n k).1 = -99 ∨ qg_unrest (qg_put C n (some (qg_at k))).2.1 < (qg_bestF C n k).2) → J_X11_best Q 60 [some (.inr (11, 0)), some (.inl (n : Int)), some (.inl b), some (.inl (k : Int))] [] M2 := by
        intro hyes
        refine go_X11_best [16, 78] 60 ?_
        refine sp_X11_reasonOf rfl hw hin hq hok hC2 hB2 (fun M3 hO3 => ?_)
        refine And.intro (fun c => skip M3 hO3 (fun z => c z.2)) (fun c => ?_)
        have hC3 := hC2.of hwD hO3 (fun k z => by unfold rf_lay at z; omega)
        have n3 : ∀ k, M3.1 11 0 k = M2.1 11 0 k := fun k => hO3.1 11 0 k (by unfold rf_lay; omega)
        refine sp_X11_unrest hC3 hl8 hwqs ?_
        refine go_X11_best [16] 60 ?_
        refine And.intro (by omega) ?_
        refine ih ((mv_up M3.1 11 0 16 (qg_unrest (qg_put C n (some (qg_at k))).2.1), M3.2), (k : Int)) hk3 ⟨(hO02.tr (hO3.wk (fun t k => rf_lay_try))).up (by unfold rf_try; omega), ⟨_, hok, hC3.fr hwD (fun k _ => mv_nep (by omega))⟩, fun i hi => (mv_nep (by omega)).trans ((hO3.1 32 0 i (by unfold rf_lay; omega)).trans (hB2 i hi)), hW2.fr (fun k k1 k2 => (mv_nep (by omega)).trans (n3 k)), ?_, ?_⟩
        · show _ = (qg_bestF C n (k + 1)).2
          unfold qg_bestF
          rw [qg_if_pos ⟨hyes, c⟩]
          exact mv_eqp
        · show (k : Int) = (qg_bestF C n (k + 1)).1
          unfold qg_bestF
          rw [qg_if_pos ⟨hyes, c⟩]
      refine And.intro (fun c2 => try60 (Or.inl (by omega))) (fun c2 => ?_)
      refine sp_X11_unrest hC2 hl8 hwqs ?_
      refine And.intro (fun c3 => skip M2 rr_of.rf (fun z => ?_)) (fun c3 => try60 (Or.inr (by omega)))
      rcases z.1 with z1 | z1
      · omega
      · omega
  refine sp_X11_takeUp rfl (C := C) (q := q) (hC.fr hw (fun k _ => mv_nep (by omega))) hw hin hq (fun M1 hC1 hW1 hB1 hO1 g16 => ?_)
  refine hl 0 (M1, -99) (by omega) ⟨(rr_of.rf.up (t := 11) (k := 16) (by unfold rf_try; omega)).tr hO1, ⟨none, qg_okp_none, hC1⟩, hB1, hW1, ?_, rfl⟩
  exact (g16 16 (by omega)).trans mv_eqp
