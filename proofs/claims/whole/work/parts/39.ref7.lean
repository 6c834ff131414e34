/-! The reference: articles, sentences and quotes are added; the first actions. -/
theorem rq_C.addA {f g : Nat → Int} {C : qg_C} {a : qg_A} (h : rq_C f C) (hw : qg_wC C) (h6 : C.1.length < 6) (g0 : g 0 = (C.1.length : Int) + 1) (hA : rq_A g (5 + 11 * C.1.length) a) (h0 : ∀ k, ¬ (k = 0 ∨ (5 + 11 * C.1.length ≤ k ∧ k < 5 + 11 * C.1.length + 11)) → g k = f k) : rq_C g (C.1 ++ [a], C.2) := by
  refine ⟨by rw [g0]; simp, (h0 1 (by omega)).trans h.2.1, fun i b hb => ?_, fun i q hq => (h.2.2.2.1 i q hq).fr (fun k hk => h0 _ (by omega)), (h0 2 (by omega)).trans h.2.2.2.2.1, (h0 3 (by omega)).trans h.2.2.2.2.2.1, (h0 4 (by omega)).trans h.2.2.2.2.2.2⟩
  have hb : (C.1 ++ [a])[i]? = some b := hb
  by_cases hi : i < C.1.length
  · rw [List.getElem?_append_left hi] at hb
    exact (h.2.2.1 i b hb).fr (hw.2.2.1 b (List.mem_of_getElem? hb)).2.2.2.1 (fun k hk => h0 _ (by omega))
  · have := (List.getElem?_eq_some_iff.mp hb).1
    simp at this
    have e : i = C.1.length := by omega
    subst e
    rw [List.getElem?_append_right (by omega)] at hb
    simp at hb
    subst hb
    exact hA
theorem rq_C.addQ {f g : Nat → Int} {C : qg_C} {q : qg_Q} (h : rq_C f C) (hw : qg_wC C) (h8 : C.2.1.length < 8) (g1 : g 1 = (C.2.1.length : Int) + 1) (hQ : rq_Q g (71 + 8 * C.2.1.length) q) (h0 : ∀ k, ¬ (k = 1 ∨ (71 + 8 * C.2.1.length ≤ k ∧ k < 71 + 8 * C.2.1.length + 8)) → g k = f k) : rq_C g (C.1, C.2.1 ++ [q], C.2.2) := by
  have h6 := hw.1
  refine ⟨(h0 0 (by omega)).trans h.1, by rw [g1]; simp, fun i a ha => (h.2.2.1 i a ha).fr (hw.2.2.1 a (List.mem_of_getElem? ha)).2.2.2.1 (fun k hk => h0 _ ?_), fun i b hb => ?_, (h0 2 (by omega)).trans h.2.2.2.2.1, (h0 3 (by omega)).trans h.2.2.2.2.2.1, (h0 4 (by omega)).trans h.2.2.2.2.2.2⟩
  · have ha : C.1[i]? = some a := ha
    have := (List.getElem?_eq_some_iff.mp ha).1
    omega
  · have hb : (C.2.1 ++ [q])[i]? = some b := hb
    by_cases hi : i < C.2.1.length
    · rw [List.getElem?_append_left hi] at hb
      exact (h.2.2.2.1 i b hb).fr (fun k hk => h0 _ (by omega))
    · have := (List.getElem?_eq_some_iff.mp hb).1
      simp at this
      have e : i = C.2.1.length := by omega
      subst e
      rw [List.getElem?_append_right (by omega)] at hb
      simp at hb
      subst hb
      exact hQ
def rf_con (t k : Nat) : Prop := t = 24 ∧ k < 135
theorem rf_con_RC {t k : Nat} (h : rf_con t k) : rf_RC t k := Or.inr h
set_option maxRecDepth 100000 in
theorem sp_X11_putArticle {s l : Nat} {x y : Int} {C : qg_C} {M : mv_M} {Q : mv_R} (ex : x = (s : Int)) (ey : y = (l : Int)) (hC : rq_C (M.1 24 0) C) (hw : qg_wC C) (h6 : C.1.length < 6) (h : ∀ M', rq_C (M'.1 24 0) (C.1 ++ [(s, l, [])], C.2) → rr_of rf_con M M' → Q none M') : E_X11_putArticle [.inr (11, 0), .inl x, .inl y] M Q := by
  subst ex; subst ey
  refine ev_X11_putArticle ?_
  refine go_X11_putArticle [] 60 ?_
  have e0 := hC.n0
  obtain ⟨n, hn⟩ : ∃ n, n = C.1.length := ⟨_, rfl⟩
  rw [← hn] at e0 h6
  refine And.intro (by omega) (And.intro (by omega) (And.intro (by omega) ?_))
  rw [e0]
  have en : (5 + 11 * (n : Int) + 0).toNat = 5 + 11 * n := by omega
  have en1 : (5 + 11 * (n : Int) + 1).toNat = 5 + 11 * n + 1 := by omega
  have en2 : (5 + 11 * (n : Int) + 2).toNat = 5 + 11 * n + 2 := by omega
  refine And.intro (by omega) (And.intro (by omega) ?_)
  rw [en]
  refine And.intro (by omega) (And.intro (by omega) ?_)
  rw [en1]
  refine And.intro (by omega) (And.intro (by omega) ?_)
  rw [en2]
  obtain ⟨M1, hM1⟩ : ∃ M1 : mv_M, M1 = (mv_up (mv_up (mv_up M.1 24 0 (5 + 11 * n) (s : Int)) 24 0 (5 + 11 * n + 1) (l : Int)) 24 0 (5 + 11 * n + 2) 0, M.2) := ⟨_, rfl⟩
  have e01 : M1.1 24 0 0 = (n : Int) := by
    rw [hM1]
    exact (mv_nep (by omega)).trans ((mv_up_ne (by omega)).trans ((mv_up_ne (by omega)).trans e0))
  have e01' : M1.1 24 0 (0 : Int).toNat = (n : Int) := e01
  have hO : rr_of rf_con M M1 := by
    rw [hM1]
    exact ((rr_of.rf.up (by unfold rf_con; omega)).up (by unfold rf_con; omega)).up (by unfold rf_con; omega)
  have key : (0 ≤ (0 : Int) ∧ (0 : Int) < 407) ∧ (-2147483648 ≤ M1.1 24 0 (0 : Int).toNat + 1 ∧ M1.1 24 0 (0 : Int).toNat + 1 ≤ 2147483647) ∧ (0 ≤ (0 : Int) ∧ (0 : Int) < 407) ∧ Q none (mv_up M1.1 24 0 (0 : Int).toNat (M1.1 24 0 (0 : Int).toNat + 1), M1.2) := by
    refine ⟨by omega, by omega, by omega, h _ ?_ (hO.up (by unfold rf_con; exact ⟨rfl, by decide⟩))⟩
    refine hC.addA hw (by omega) ?_ ⟨?_, ?_, ?_, fun k l hk => by simp at hk⟩ (fun k hk => ?_)
    · exact mv_eqp.trans (by rw [e01', hn])
    · rw [← hn]
      refine (mv_nep (by omega)).trans ?_
      rw [hM1]
      exact (mv_nep (by omega)).trans ((mv_up_ne (by omega)).trans mv_up_eq)
    · rw [← hn]
      refine (mv_nep (by omega)).trans ?_
      rw [hM1]
      exact (mv_nep (by omega)).trans mv_up_eq
    · rw [← hn]
      refine (mv_nep (by omega)).trans ?_
      rw [hM1]
      exact mv_eqp
    · rw [← hn] at hk
      refine (mv_nep (fun z => hk (Or.inl z.2.2))).trans ?_
      rw [hM1]
      exact (mv_nep (by omega)).trans ((mv_up_ne (by omega)).trans (mv_up_ne (by omega)))
  rw [hM1] at key
  exact key
set_option maxRecDepth 100000 in
theorem sp_X11_putSentence {a l : Nat} {x y : Int} {A : qg_A} {C : qg_C} {M : mv_M} {Q : mv_R} (ex : x = (a : Int)) (ey : y = (l : Int)) (hC : rq_C (M.1 24 0) C) (hw : qg_wC C) (hA : C.1[a]? = some A) (h8 : A.2.2.length < 8) (h : ∀ M', rq_C (M'.1 24 0) (C.1.set a (A.1, A.2.1, A.2.2 ++ [l]), C.2) → rr_of rf_con M M' → Q (some (.inl (A.2.2.length : Int))) M') : E_X11_putSentence [.inr (11, 0), .inl x, .inl y] M Q := by
  subst ex; subst ey
  refine ev_X11_putSentence ?_
  refine go_X11_putSentence [] 60 ?_
  have h6 := hw.1
  have ha := (List.getElem?_eq_some_iff.mp hA).1
  have hr := hC.2.2.1 a A hA
  obtain ⟨m, hm⟩ : ∃ m, m = A.2.2.length := ⟨_, rfl⟩
  have e2 : M.1 24 0 (5 + 11 * a + 2) = (m : Int) := by rw [hm]; exact hr.2.2.1
  refine sp_X11_of (p := 2) rfl rfl (by omega) e2 ?_
  refine And.intro (by omega) (And.intro (by omega) (And.intro (by omega) (And.intro (by omega) (And.intro (by omega) ?_))))
  have en : (5 + 11 * (a : Int) + 3 + (m : Int)).toNat = 5 + 11 * a + (3 + m) := by omega
  have en2 : (5 + 11 * (a : Int) + 2).toNat = 5 + 11 * a + 2 := by omega
  rw [en]
  refine And.intro (by omega) (And.intro (by omega) (And.intro (by omega) (And.intro (by omega) ?_)))
  rw [en2]
  have e22 : ((mv_up M.1 24 0 (5 + 11 * a + (3 + m)) (l : Int), M.2) : mv_M).1 24 0 (5 + 11 * a + 2) = (m : Int) := (mv_nep (by omega)).trans e2
  rw [e22]
  refine And.intro (by omega) (And.intro (by omega) ?_)
  rw [en2]
  rw [← hm] at h
  refine h _ (hC.setA hw ha ⟨?_, ?_, ?_, fun k v hk => ?_⟩ (fun k hk => ?_)) ((rr_of.rf.up (by unfold rf_con; omega)).up (by unfold rf_con; omega))
  · exact (mv_nep (by omega)).trans ((mv_up_ne (by omega)).trans hr.1)
  · exact (mv_nep (by omega)).trans ((mv_up_ne (by omega)).trans hr.2.1)
  · refine mv_eqp.trans ?_
    show (m : Int) + 1 = (((A.2.2 ++ [l]).length : Nat) : Int)
    simp
    omega
  · have hk : (A.2.2 ++ [l])[k]? = some v := hk
    by_cases hkm : k < A.2.2.length
    · rw [List.getElem?_append_left hkm] at hk
      exact (mv_nep (by omega)).trans ((mv_up_ne (by omega)).trans (hr.2.2.2 k v hk))
    · have := (List.getElem?_eq_some_iff.mp hk).1
      simp at this
      have e : k = m := by omega
      subst e
      rw [List.getElem?_append_right (by omega)] at hk
      rw [hm] at hk
      simp at hk
      subst hk
      exact (mv_nep (by omega)).trans mv_up_eq
  · exact (mv_nep (by omega)).trans (mv_up_ne (by omega))
set_option maxRecDepth 100000 in
theorem sp_X11_addArticle {F : qg_F} {s l : Int} {M : mv_M} {Q : mv_R} (hZ : rr_Z M F) (hw : qg_wF F) (h : ∀ M', rr_Z M' (op_addArticle F s l).2 → rr_of rf_X M M' → Q (some (.inl (op_addArticle F s l).1)) M') : E_X11_addArticle [.inr (11, 0), .inl s, .inl l] M Q := by
  refine ev_X11_addArticle ?_
  refine go_X11_addArticle [27] 60 ?_
  have hZ0 := hZ.R hw rr_th
  have hO0 := (rr_th (M := M)).wk (fun t k => rf_R_X)
  obtain ⟨M0, hM0⟩ : ∃ M0 : mv_M, M0 = (mv_up M.1 11 0 0 0, M.2) := ⟨_, rfl⟩
  rw [← hM0] at hZ0 hO0
  show E_X11_in [.inl s, .inl 0, .inl 359] (mv_up M.1 11 0 0 0, M.2) _
  rw [← hM0]
  unfold op_addArticle at h
  have bad : ¬ ((0 ≤ s ∧ s ≤ 359) ∧ 1 ≤ l ∧ l ≤ 200) → J_X11_addArticle Q 27 [some (.inr (11, 0)), some (.inl s), some (.inl l)] [] M0 := by
    intro hc
    rw [if_neg hc] at h
    refine go_X11_addArticle [] 60 ?_
    exact h M0 hZ0 hO0
  have e0 := hZ0.1.1.n0
  have hwC := hw.1.1.1
  refine sp_X11_in (fun c1 => mv_t ?_) (fun c1 => mv_f (bad (by omega)))
  refine sp_X11_in (fun c2 => mv_nt ?_) (fun c2 => mv_nf (bad (by omega)))
  rw [if_pos (by omega)] at h
  refine And.intro (by omega) ?_
  have h6 := hwC.1
  refine And.intro (fun c3 => ?_) (fun c3 => ?_)
  · have hlt : F.1.1.1.length < 6 := by omega
    rw [if_pos hlt] at h
    refine sp_X11_act hZ0 hw (fun M1 hZ1 hO1 => ?_)
    obtain ⟨n, rfl⟩ := Int.eq_ofNat_of_zero_le c1.1
    obtain ⟨m, rfl⟩ := Int.eq_ofNat_of_zero_le (by omega : 0 ≤ l)
    refine sp_X11_putArticle rfl rfl hZ1.1.1 hwC hlt (fun M2 hC2 hO2 => ?_)
    have hh := h M2 (hZ1.wc (qg_wF_act hw) hC2 (hO2.wk (fun t k => rf_con_RC))) ((hO0.tr (hO1.wk (fun t k => rf_act_X))).tr (hO2.wk (fun t k z => rf_RC_X (rf_con_RC z))))
    have e2 : M2.1 24 0 (0 : Int).toNat = (F.1.1.1.length : Int) + 1 := by
      rw [hC2.n0]
      show (((F.1.1.1 ++ [(n, m, [])]).length : Nat) : Int) = _
      simp
    refine And.intro (by omega) (And.intro (by omega) ?_)
    have e3 : M2.1 24 0 (0 : Int).toNat - 1 = (F.1.1.1.length : Int) := by omega
    rw [← e3] at hh
    exact hh
  · rw [if_neg (by omega)] at h
    exact h M0 hZ0 hO0
set_option maxRecDepth 100000 in
theorem sp_X11_addSentence {F : qg_F} {a l : Int} {M : mv_M} {Q : mv_R} (hZ : rr_Z M F) (hw : qg_wF F) (h : ∀ M', rr_Z M' (op_addSentence F a l).2 → rr_of rf_X M M' → Q (some (.inl (op_addSentence F a l).1)) M') : E_X11_addSentence [.inr (11, 0), .inl a, .inl l] M Q := by
  refine ev_X11_addSentence ?_
  refine go_X11_addSentence [29] 60 ?_
  have hZ0 := hZ.R hw rr_th
  have hO0 := (rr_th (M := M)).wk (fun t k => rf_R_X)
  obtain ⟨M0, hM0⟩ : ∃ M0 : mv_M, M0 = (mv_up M.1 11 0 0 0, M.2) := ⟨_, rfl⟩
  rw [← hM0] at hZ0 hO0
  show E_X11_isArticle [.inr (11, 0), .inl a] (mv_up M.1 11 0 0 0, M.2) _
  rw [← hM0]
  have hwC := hw.1.1.1
  have bad : op_addSentence F a l = (-1, F) → J_X11_addSentence Q 29 [some (.inr (11, 0)), some (.inl a), some (.inl l)] [] M0 := by
    intro hc
    rw [hc] at h
    refine go_X11_addSentence [] 60 ?_
    exact h M0 hZ0 hO0
  refine sp_X11_isArticle hZ0.1.1 hwC.1 (fun c1 => mv_t ?_) (fun c1 => mv_f (bad (by unfold op_addSentence; rw [qg_art_none c1])))
  obtain ⟨n, A, rfl, hn, hA, ha⟩ := qg_art_some c1
  have eop : op_addSentence F (n : Int) l = (if 0 ≤ l ∧ l < (A.2.1 : Int) then (if A.2.2.length < 8 then ((A.2.2.length : Int), qg_wc (qg_act F) (F.1.1.1.set (n : Int).toNat (A.1, A.2.1, A.2.2 ++ [l.toNat]), F.1.1.2)) else (-3, F)) else (-1, F)) := by
    unfold op_addSentence; rw [ha]
  rw [eop] at h bad
  have hwA := hwC.2.2.1 A (List.mem_of_getElem? hA)
  have w3 := hwA.2.2.1
  have h8 := hwA.2.2.2.1
  have h6 := hwC.1
  have hr := hZ0.1.1.2.2.1 n A hA
  refine sp_X11_of (p := 1) rfl rfl (by omega) hr.2.1 ?_
  refine And.intro (by omega) ?_
  refine sp_X11_in (fun c2 => mv_nt ?_) (fun c2 => mv_nf (bad (by rw [if_neg (by omega)])))
  rw [if_pos (by omega)] at h
  refine sp_X11_of (p := 2) rfl rfl (by omega) hr.2.2.1 ?_
  refine And.intro (fun c3 => ?_) (fun c3 => ?_)
  · have hlt : A.2.2.length < 8 := by omega
    rw [if_pos hlt] at h
    refine sp_X11_act hZ0 hw (fun M1 hZ1 hO1 => ?_)
    obtain ⟨m, rfl⟩ := Int.eq_ofNat_of_zero_le c2.1
    refine sp_X11_putSentence rfl rfl hZ1.1.1 hwC hA hlt (fun M2 hC2 hO2 => ?_)
    exact h M2 (hZ1.wc (qg_wF_act hw) hC2 (hO2.wk (fun t k => rf_con_RC))) ((hO0.tr (hO1.wk (fun t k => rf_act_X))).tr (hO2.wk (fun t k z => rf_RC_X (rf_con_RC z))))
  · rw [if_neg (by omega)] at h
    exact h M0 hZ0 hO0
set_option maxRecDepth 100000 in
theorem sp_X11_putQuote {a s w ht : Nat} {x y z u : Int} {C : qg_C} {M : mv_M} {Q : mv_R} (ex : x = (a : Int)) (ey : y = (s : Int)) (ez : z = (w : Int)) (eu : u = (ht : Int)) (hC : rq_C (M.1 24 0) C) (hw : qg_wC C) (h8 : C.2.1.length < 8) (h : ∀ M', rq_C (M'.1 24 0) (C.1, C.2.1 ++ [(a, s, w, ht, none)], C.2.2) → rr_of rf_con M M' → Q none M') : E_X11_putQuote [.inr (11, 0), .inl x, .inl y, .inl z, .inl u] M Q := by
  subst ex; subst ey; subst ez; subst eu
  refine ev_X11_putQuote ?_
  refine go_X11_putQuote [] 60 ?_
  obtain ⟨n, hn⟩ : ∃ n, n = C.2.1.length := ⟨_, rfl⟩
  have e1 : M.1 24 0 (1 : Int).toNat = (n : Int) := by rw [hn]; exact hC.n1
  rw [← hn] at h8
  refine And.intro (by omega) (And.intro (by omega) (And.intro (by omega) (And.intro (by omega) ?_)))
  refine sp_X11_setQuote (a := n) (p := 0) e1 rfl (by omega) ?_
  refine sp_X11_setQuote (a := n) (p := 1) e1 rfl (by omega) ?_
  refine sp_X11_setQuote (a := n) (p := 2) e1 rfl (by omega) ?_
  refine sp_X11_setQuote (a := n) (p := 3) e1 rfl (by omega) ?_
  obtain ⟨M1, hM1⟩ : ∃ M1 : mv_M, M1 = (mv_up (mv_up (mv_up (mv_up (mv_up M.1 24 0 1 (M.1 24 0 1 + 1)) 24 0 (71 + 8 * n + 0) (a : Int)) 24 0 (71 + 8 * n + 1) (s : Int)) 24 0 (71 + 8 * n + 2) (w : Int)) 24 0 (71 + 8 * n + 3) (ht : Int), M.2) := ⟨_, rfl⟩
  have hO1 : rr_of rf_con M M1 := by
    rw [hM1]
    exact ((((rr_of.rf.up (by unfold rf_con; omega)).up (by unfold rf_con; omega)).up (by unfold rf_con; omega)).up (by unfold rf_con; omega)).up (by unfold rf_con; omega)
  have e1' : M.1 24 0 1 = (n : Int) := e1
  have g1 : M1.1 24 0 1 = (n : Int) + 1 := by
    rw [hM1]
    refine (mv_nep (by omega)).trans ((mv_up_ne (by omega)).trans ((mv_up_ne (by omega)).trans ((mv_up_ne (by omega)).trans (mv_up_eq.trans (by rw [e1'])))))
  have ga : M1.1 24 0 (71 + 8 * n) = (a : Int) := by
    rw [hM1]
    exact (mv_nep (by omega)).trans ((mv_up_ne (by omega)).trans ((mv_up_ne (by omega)).trans mv_up_eq))
  have gs : M1.1 24 0 (71 + 8 * n + 1) = (s : Int) := by
    rw [hM1]
    exact (mv_nep (by omega)).trans ((mv_up_ne (by omega)).trans mv_up_eq)
  have gw : M1.1 24 0 (71 + 8 * n + 2) = (w : Int) := by
    rw [hM1]
    exact (mv_nep (by omega)).trans mv_up_eq
  have gh : M1.1 24 0 (71 + 8 * n + 3) = (ht : Int) := by
    rw [hM1]
    exact mv_eqp
  have go : ∀ k, ¬ (k = 1 ∨ (71 + 8 * n ≤ k ∧ k < 71 + 8 * n + 8)) → M1.1 24 0 k = M.1 24 0 k := by
    intro k hk
    rw [hM1]
    exact (mv_nep (by omega)).trans ((mv_up_ne (by omega)).trans ((mv_up_ne (by omega)).trans ((mv_up_ne (by omega)).trans (mv_up_ne (by omega)))))
  show E_X11_put [.inr (11, 0), .inl (M.1 24 0 (1 : Int).toNat), .inl 0, .inl 0, .inl 0] (mv_up (mv_up (mv_up (mv_up (mv_up M.1 24 0 1 (M.1 24 0 1 + 1)) 24 0 (71 + 8 * n + 0) (a : Int)) 24 0 (71 + 8 * n + 1) (s : Int)) 24 0 (71 + 8 * n + 2) (w : Int)) 24 0 (71 + 8 * n + 3) (ht : Int), M.2) _
  rw [← hM1]
  refine sp_X11_put0 e1 h8 (fun M2 g4 g5 g6 g7 hO2 => ?_)
  refine sp_X11_setQuote (a := n) (p := 4) e1 rfl (by omega) ?_
  have q2 : ∀ k, ¬ (71 + 8 * n + 4 ≤ k ∧ k < 71 + 8 * n + 8) → M2.1 24 0 k = M1.1 24 0 k := fun k hk => hO2.1 24 0 k (by unfold rf_put; omega)
  refine h _ (hC.addQ hw (by omega) ?_ ⟨?_, ?_, ?_, ?_, ?_⟩ (fun k hk => ?_)) ((hO1.tr (hO2.wk (fun t k z => by unfold rf_put at z; unfold rf_con; omega))).up (by unfold rf_con; omega))
  · exact (mv_nep (by omega)).trans ((q2 1 (by omega)).trans (g1.trans (by rw [hn])))
  · rw [← hn]; exact (mv_nep (by omega)).trans ((q2 _ (by omega)).trans ga)
  · rw [← hn]; exact (mv_nep (by omega)).trans ((q2 _ (by omega)).trans gs)
  · rw [← hn]; exact (mv_nep (by omega)).trans ((q2 _ (by omega)).trans gw)
  · rw [← hn]; exact (mv_nep (by omega)).trans ((q2 _ (by omega)).trans gh)
  · rw [← hn]; exact mv_eqp
  · rw [← hn] at hk; exact (mv_nep (by omega)).trans ((q2 _ (by omega)).trans (go k hk))
set_option maxRecDepth 100000 in
theorem sp_X11_addQuote {F : qg_F} {a s w ht : Int} {M : mv_M} {Q : mv_R} (hZ : rr_Z M F) (hw : qg_wF F) (h : ∀ M', rr_Z M' (op_addQuote F a s w ht).2 → rr_of rf_X M M' → Q (some (.inl (op_addQuote F a s w ht).1)) M') : E_X11_addQuote [.inr (11, 0), .inl a, .inl s, .inl w, .inl ht] M Q := by
  refine ev_X11_addQuote ?_
  refine go_X11_addQuote [34] 60 ?_
  have hZ0 := hZ.R hw rr_th
  have hO0 := (rr_th (M := M)).wk (fun t k => rf_R_X)
  obtain ⟨M0, hM0⟩ : ∃ M0 : mv_M, M0 = (mv_up M.1 11 0 0 0, M.2) := ⟨_, rfl⟩
  rw [← hM0] at hZ0 hO0
  show E_X11_isSentence [.inr (11, 0), .inl a, .inl s] (mv_up M.1 11 0 0 0, M.2) _
  rw [← hM0]
  unfold op_addQuote at h
  have hwC := hw.1.1.1
  have bad : ¬ (qg_hasS F.1.1 a s ∧ (1 ≤ w ∧ w ≤ 3) ∧ 1 ≤ ht ∧ ht ≤ 6) → J_X11_addQuote Q 34 [some (.inr (11, 0)), some (.inl a), some (.inl s), some (.inl w), some (.inl ht)] [] M0 := by
    intro hc
    rw [qg_if_neg hc] at h
    refine go_X11_addQuote [] 60 ?_
    exact h M0 hZ0 hO0
  refine sp_X11_isSentence hZ0.1.1 hwC (fun c1 => mv_t ?_) (fun c1 => mv_f (bad (fun z => c1 z.1)))
  refine sp_X11_in (fun c2 => mv_t ?_) (fun c2 => mv_f (bad (fun z => c2 z.2.1)))
  refine sp_X11_in (fun c3 => mv_nt ?_) (fun c3 => mv_nf (bad (fun z => c3 z.2.2)))
  rw [qg_if_pos ⟨c1, c2, c3⟩] at h
  have e1 := hZ0.1.1.n1
  have h8 := hwC.2.1
  refine And.intro (by omega) ?_
  refine And.intro (fun c4 => ?_) (fun c4 => ?_)
  · have hlt : F.1.1.2.1.length < 8 := by omega
    rw [if_pos hlt] at h
    refine sp_X11_act hZ0 hw (fun M1 hZ1 hO1 => ?_)
    have hs := qg_hasS_nat c1
    obtain ⟨a', rfl⟩ := Int.eq_ofNat_of_zero_le hs.1
    obtain ⟨s', rfl⟩ := Int.eq_ofNat_of_zero_le hs.2.1
    obtain ⟨w', rfl⟩ := Int.eq_ofNat_of_zero_le (by omega : 0 ≤ w)
    obtain ⟨h', rfl⟩ := Int.eq_ofNat_of_zero_le (by omega : 0 ≤ ht)
    refine sp_X11_putQuote rfl rfl rfl rfl hZ1.1.1 hwC hlt (fun M2 hC2 hO2 => ?_)
    have hh := h M2 (hZ1.wc (qg_wF_act hw) hC2 (hO2.wk (fun t k => rf_con_RC))) ((hO0.tr (hO1.wk (fun t k => rf_act_X))).tr (hO2.wk (fun t k z => rf_RC_X (rf_con_RC z))))
    have e2 : M2.1 24 0 (1 : Int).toNat = (F.1.1.2.1.length : Int) + 1 := by
      rw [hC2.n1]
      show (((F.1.1.2.1 ++ [(a', s', w', h', none)]).length : Nat) : Int) = _
      simp
    refine And.intro (by omega) (And.intro (by omega) ?_)
    have e3 : M2.1 24 0 (1 : Int).toNat - 1 = (F.1.1.2.1.length : Int) := by omega
    rw [← e3] at hh
    exact hh
  · rw [if_neg (by omega)] at h
    exact h M0 hZ0 hO0
