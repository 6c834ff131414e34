/-! The reference: items of the text; load. -/
def rq_res (M M' : mv_M) (r : Nat ⊕ (Nat × qg_C)) (x : Int) : Prop := rr_of rf_rd M M' ∧ match r with
  | .inl f => x = 0 ∧ M'.1 11 0 17 = (f : Int)
  | .inr (p, C) => x = 1 ∧ M'.1 11 0 17 = (p : Int) ∧ rq_C (M'.1 24 0) C
theorem rq_res.b {M M' : mv_M} {r : Nat ⊕ (Nat × qg_C)} {x : Int} (h : rq_res M M' r x) : x = 0 ∨ x = 1 := by
  cases r with
  | inl f => exact Or.inl h.2.1
  | inr y => exact Or.inr h.2.1
theorem rf_con_rd {t k : Nat} (h : rf_con t k) : rf_rd t k := Or.inl h
theorem rq_C.num {M M' : mv_M} {C : qg_C} (hC : rq_C (M.1 24 0) C) (hw : qg_wC C) (h : rr_of rf_num M M') : rq_C (M'.1 24 0) C := hC.of hw h (fun k z => by unfold rf_num at z; omega)
set_option maxRecDepth 100000 in
theorem sp_X11_semi {tx : List Nat} {p : Nat} {C : qg_C} {M0 M : mv_M} {Q : mv_R} (hT : rr_Tx M tx) (h140 : tx.length ≤ 140) (hp : M.1 11 0 17 = (p : Int)) (hpl : p ≤ tx.length) (hC : rq_C (M.1 24 0) C) (hw : qg_wC C) (hO : rr_of rf_rd M0 M)
    (h : ∀ M' x, rq_res M0 M' (qp_semi tx (.inr (p, C))) x → Q (some (.inl x)) M') : E_X11_takes [.inr (11, 0), .inl 59] M Q := by
  refine sp_X11_takes (c := 59) rfl (by omega) hT h140 hp hpl (fun M' hc hp' => h M' 1 ⟨hO.tr hp'.of, ?_⟩) (fun M' hc hp' => h M' 0 ⟨hO.tr hp'.of, ?_⟩)
  · show (match (if qp_at tx (qp_skip tx p) = 59 then (.inr (qp_skip tx p + 1, C) : Nat ⊕ (Nat × qg_C)) else .inl (qp_skip tx p)) with
      | .inl f => (1 : Int) = 0 ∧ M'.1 11 0 17 = (f : Int)
      | .inr (p, C) => (1 : Int) = 1 ∧ M'.1 11 0 17 = (p : Int) ∧ rq_C (M'.1 24 0) C)
    rw [if_pos hc]
    exact ⟨rfl, hp'.1, hp'.c hC hw⟩
  · show (match (if qp_at tx (qp_skip tx p) = 59 then (.inr (qp_skip tx p + 1, C) : Nat ⊕ (Nat × qg_C)) else .inl (qp_skip tx p)) with
      | .inl f => (0 : Int) = 0 ∧ M'.1 11 0 17 = (f : Int)
      | .inr (p, C) => (0 : Int) = 1 ∧ M'.1 11 0 17 = (p : Int) ∧ rq_C (M'.1 24 0) C)
    rw [if_neg hc]
    exact ⟨rfl, hp'.1⟩
set_option maxRecDepth 100000 in
theorem sp_X11_readsSentences {tx : List Nat} {a p : Nat} {x : Int} {C : qg_C} {M : mv_M} {Q : mv_R} (ex : x = (a : Int)) (hT : rr_Tx M tx) (h140 : tx.length ≤ 140) (h255 : ∀ s ∈ tx, s ≤ 255) (hp : M.1 11 0 17 = (p : Int)) (hpl : p ≤ tx.length)
    (hC : rq_C (M.1 24 0) C) (hw : qg_wC C) (ha : a < C.1.length) (h : ∀ M' x, rq_res M M' (qp_semi tx (qp_lines tx a 9 p C)) x → Q (some (.inl x)) M') : E_X11_readsSentences [.inr (11, 0), .inl x] M Q := by
  subst ex
  refine ev_X11_readsSentences ?_
  refine go_X11_readsSentences [2] 60 ?_
  obtain ⟨r, hr⟩ : ∃ r, r = qp_lines tx a 9 p C := ⟨_, rfl⟩
  rw [← hr] at h
  have hl : ∀ (i : Nat) (q : mv_M × Nat × qg_C), i ≤ 9 → (rr_of rf_rd M q.1 ∧ q.1.1 11 0 17 = (q.2.1 : Int) ∧ q.2.1 ≤ tx.length ∧ rq_C (q.1.1 24 0) q.2.2 ∧ qg_wC q.2.2 ∧ (∃ A, q.2.2.1[a]? = some A ∧ i ≤ A.2.2.length) ∧ qp_lines tx a (9 - i) q.2.1 q.2.2 = r) → ∀ o1 o2,
      J_X11_readsSentences Q 2 [some (.inr (11, 0)), some (.inl (a : Int)), some (.inl 1), o1, o2] [] q.1 := by
    refine mv_loop 9 (fun i q hi ih hI o1 o2 => ?_)
    obtain ⟨M1, p1, C1⟩ := q
    obtain ⟨hO, e17, hp1, hC1, hw1, ⟨A, hA, hiA⟩, hR⟩ := hI
    dsimp only at hO e17 hp1 hC1 hw1 hA hR ⊢
    have hwA := hw1.2.2.1 A (List.mem_of_getElem? hA)
    have hi8 : i ≤ 8 := Nat.le_trans hiA hwA.2.2.2.1
    have h200 := hwA.2.2.1
    have ha6 : a < 6 := by have := (List.getElem?_eq_some_iff.mp hA).1; have := hw1.1; omega
    have hT1 := hT.rd hO
    have hrA := hC1.2.2.1 a A hA
    rw [show 9 - i = (8 - i) + 1 by omega, qp_lines_succ, hA] at hR
    dsimp only at hR
    have hs := qp_skip_ok tx hp1
    have bad : ∀ M2 : mv_M, rr_of rf_num M1 M2 → M2.1 11 0 17 = (qp_skip tx p1 : Int) → r = .inl (qp_skip tx p1) → Q (some (.inl 0)) M2 := by
      intro M2 hO2 g17 hr2
      refine h M2 0 ?_
      rw [hr2]
      exact ⟨hO.tr (hO2.wk (fun t k => rf_num_rd)), rfl, g17⟩
    refine go_X11_readsSentences [2] 60 ?_
    refine mv_t ?_
    refine sp_X11_of (p := 2) rfl rfl (by omega) hrA.2.2.1 ?_
    refine And.intro (fun c => ?_) (fun c => ?_)
    · have h8 : A.2.2.length < 8 := by have := hwA.2.2.2.1; omega
      rw [if_pos h8] at hR
      refine mv_f ?_
      refine sp_X11_of (p := 1) rfl rfl (by omega) hrA.2.1 ?_
      refine And.intro (by omega) ?_
      refine sp_X11_reads hT1 h140 h255 e17 hp1 (by omega) (by omega) (fun v e M2 hn g17 g18 hO2 => mv_nt ?_) (fun M2 hn g17 hO2 => mv_nf ?_)
      · rw [hn] at hR
        dsimp only at hR
        have hv := qp_num_ok hn hp1
        have hC2 := hC1.num hw1 hO2
        refine sp_X11_putSentence rfl g18 hC2 hw1 hA h8 (fun M3 hC3 hO3 => ?_)
        rw [← qp_addS_eq hA v] at hC3
        have hw3 := qg_wC_addS hw1 hA h8 (l := v) (by omega)
        have hO13 : rr_of rf_rd M M3 := (hO.tr (hO2.wk (fun t k => rf_num_rd))).tr (hO3.wk (fun t k => rf_con_rd))
        have e173 : M3.1 11 0 17 = (e : Int) := (hO3.1 _ _ _ (by unfold rf_con; omega)).trans g17
        refine And.intro (fun c2 => absurd c2 (by omega)) (fun _ => ?_)
        have hs3 := qp_skip_ok tx hv.2.1
        refine sp_X11_takes (c := 44) rfl (by omega) (hT.rd hO13) h140 e173 hv.2.1 (fun M4 hc hp4 => mv_t ?_) (fun M4 hc hp4 => mv_f ?_)
        · rw [if_pos hc] at hR
          have hlt := qp_at_lt (show qp_at tx (qp_skip tx e) ≠ 0 by omega)
          refine ih (M4, qp_skip tx e + 1, qp_addS C1 a v) (by omega) ⟨hO13.tr hp4.of, hp4.1, by show qp_skip tx e + 1 ≤ _; omega, hp4.c hC3 hw3, hw3, ⟨_, qp_addS_at hA, by simp; omega⟩, ?_⟩ _ _
          rw [← hR]
          congr 1
          omega
        · rw [if_neg hc] at hR
          refine go_X11_readsSentences [] 60 ?_
          refine mv_f ?_
          refine sp_X11_semi (p := qp_skip tx e) (C := qp_addS C1 a v) (hT.rd (hO13.tr hp4.of)) h140 hp4.1 hs3.2 (hp4.c hC3 hw3) hw3 (hO13.tr hp4.of) (fun M5 x hres => And.intro hres.b ?_)
          rw [hR] at hres
          exact h M5 x hres
      · rw [hn] at hR
        exact And.intro (Or.inl rfl) (bad M2 hO2 g17 hR.symm)
    · have h8 : ¬ A.2.2.length < 8 := by omega
      rw [if_neg h8] at hR
      refine mv_t ?_
      refine sp_X11_reads hT1 h140 h255 e17 hp1 (by omega) (by omega) (fun v e M2 hn g17 g18 hO2 => ?_) (fun M2 hn g17 hO2 => mv_nf ?_)
      · have hv := qp_num_ok hn hp1
        omega
      · exact And.intro (Or.inl rfl) (bad M2 hO2 g17 hR.symm)
  obtain ⟨A, hA⟩ := qg_some ha
  exact hl 0 (M, p, C) (by omega) ⟨rr_of.rf, hp, hpl, hC, hw, ⟨A, hA, Nat.zero_le _⟩, hr.symm⟩ _ _
set_option maxRecDepth 100000 in
theorem sp_X11_readsArticle {tx : List Nat} {p : Nat} {C : qg_C} {M : mv_M} {Q : mv_R} (hT : rr_Tx M tx) (h140 : tx.length ≤ 140) (h255 : ∀ s ∈ tx, s ≤ 255) (hp : M.1 11 0 17 = (p : Int)) (hpl : p ≤ tx.length)
    (hC : rq_C (M.1 24 0) C) (hw : qg_wC C) (h6 : C.1.length < 6) (h : ∀ M' x, rq_res M M' (qp_semi tx (qp_article tx p C)) x → Q (some (.inl x)) M') : E_X11_readsArticle [.inr (11, 0)] M Q := by
  refine ev_X11_readsArticle ?_
  refine go_X11_readsArticle [] 60 ?_
  obtain ⟨r, hr⟩ : ∃ r, r = qp_article tx p C := ⟨_, rfl⟩
  rw [← hr] at h
  unfold qp_article at hr
  have bad : ∀ (f : Nat) (M2 : mv_M), rr_of rf_rd M M2 → M2.1 11 0 17 = (f : Int) → r = .inl f → Q (some (.inl 0)) M2 := by
    intro f M2 hO2 g17 hr2
    refine h M2 0 ?_
    rw [hr2]
    exact ⟨hO2, rfl, g17⟩
  refine sp_X11_reads hT h140 h255 hp hpl (by omega) (by omega) (fun s e M1 hn g17 g18 hO1 => mv_nt ?_) (fun M1 hn g17 hO1 => mv_nf ?_)
  · rw [hn] at hr
    dsimp only at hr
    have hv := qp_num_ok hn hpl
    have hO1' := hO1.wk (fun t k => rf_num_rd)
    have hC1 := hC.num hw hO1
    refine sp_X11_reads (hT.rd hO1') h140 h255 g17 hv.2.1 (by omega) (by omega) (fun l e2 M2 hn2 k17 k18 hO2 => mv_nt ?_) (fun M2 hn2 k17 hO2 => mv_nf ?_)
    · rw [hn2] at hr
      dsimp only at hr
      have hv2 := qp_num_ok hn2 hv.2.1
      have hO2' := hO1'.tr (hO2.wk (fun t k => rf_num_rd))
      refine sp_X11_putArticle g18 k18 (hC1.num hw hO2) hw h6 (fun M3 hC3 hO3 => ?_)
      have hw3 := qg_wC_addA hw h6 (s := s) (l := l) (by omega) (by omega) (by omega)
      have hO3' := hO2'.tr (hO3.wk (fun t k => rf_con_rd))
      have e3 : M3.1 11 0 17 = (e2 : Int) := (hO3.1 _ _ _ (by unfold rf_con; omega)).trans k17
      have hs3 := qp_skip_ok tx hv2.2.1
      refine sp_X11_takes (c := 58) rfl (by omega) (hT.rd hO3') h140 e3 hv2.2.1 (fun M4 hc hp4 => mv_t ?_) (fun M4 hc hp4 => mv_f ?_)
      · rw [if_pos hc] at hr
        have hlt := qp_at_lt (show qp_at tx (qp_skip tx e2) ≠ 0 by omega)
        have hC4 := hp4.c hC3 hw3
        have e0 : M4.1 24 0 (0 : Int).toNat = (C.1.length : Int) + 1 := by
          rw [hC4.n0]
          show (((C.1 ++ [(s, l, [])]).length : Nat) : Int) = _
          simp
        refine And.intro (by omega) (And.intro (by omega) ?_)
        refine sp_X11_readsSentences (a := C.1.length) (p := qp_skip tx e2 + 1) (C := (C.1 ++ [(s, l, [])], C.2)) (by omega) (hT.rd (hO3'.tr hp4.of)) h140 h255 hp4.1 (by omega) hC4 hw3 (by simp) (fun M5 x hres => And.intro hres.b (h M5 x ?_))
        rw [hr]
        exact ⟨(hO3'.tr hp4.of).tr hres.1, hres.2⟩
      · rw [if_neg hc] at hr
        refine sp_X11_semi (p := qp_skip tx e2) (C := (C.1 ++ [(s, l, [])], C.2)) (hT.rd (hO3'.tr hp4.of)) h140 hp4.1 hs3.2 (hp4.c hC3 hw3) hw3 (hO3'.tr hp4.of) (fun M5 x hres => And.intro hres.b (h M5 x ?_))
        rw [hr]
        exact hres
    · rw [hn2] at hr
      exact And.intro (Or.inl rfl) (bad _ M2 (hO1'.tr (hO2.wk (fun t k => rf_num_rd))) k17 hr)
  · rw [hn] at hr
    exact And.intro (Or.inl rfl) (bad _ M1 (hO1.wk (fun t k => rf_num_rd)) g17 hr)
set_option maxRecDepth 100000 in
theorem sp_X11_readsQuote {tx : List Nat} {p : Nat} {C : qg_C} {M : mv_M} {Q : mv_R} (hT : rr_Tx M tx) (h140 : tx.length ≤ 140) (h255 : ∀ s ∈ tx, s ≤ 255) (hp : M.1 11 0 17 = (p : Int)) (hpl : p ≤ tx.length)
    (hC : rq_C (M.1 24 0) C) (hw : qg_wC C) (h8 : C.2.1.length < 8) (hi : qg_inC C) (h : ∀ M' x, rq_res M M' (qp_semi tx (qp_quote tx p C)) x → Q (some (.inl x)) M') : E_X11_readsQuote [.inr (11, 0)] M Q := by
  refine ev_X11_readsQuote ?_
  refine go_X11_readsQuote [] 60 ?_
  have hqok := qp_quote_ok hpl hw hi h8
  obtain ⟨r, hr⟩ : ∃ r, r = qp_quote tx p C := ⟨_, rfl⟩
  rw [← hr] at h hqok
  unfold qp_quote at hr
  have h6 := hw.1
  have e0 := hC.n0
  have bad : ∀ (f : Nat) (M2 : mv_M), rr_of rf_rd M M2 → M2.1 11 0 17 = (f : Int) → r = .inl f → Q (some (.inl 0)) M2 := by
    intro f M2 hO2 g17 hr2
    refine h M2 0 ?_
    rw [hr2]
    exact ⟨hO2, rfl, g17⟩
  refine And.intro (by omega) (And.intro (by omega) ?_)
  rw [e0]
  refine sp_X11_reads hT h140 h255 hp hpl (by omega) (by omega) (fun a e M1 hn g17 g18 hO1 => mv_nt ?_) (fun M1 hn g17 hO1 => mv_nf ?_)
  · rw [hn] at hr
    dsimp only at hr
    have hv := qp_num_ok hn hpl
    have hO1' := hO1.wk (fun t k => rf_num_rd)
    have hC1 := hC.num hw hO1
    obtain ⟨A, hA⟩ := qg_some (show a < C.1.length by omega)
    have hwA := hw.2.2.1 A (List.mem_of_getElem? hA)
    have h8A := hwA.2.2.2.1
    have eS : qp_nS C a = A.2.2.length := by
      unfold qp_nS
      rw [List.getD_eq_getElem?_getD, hA]; rfl
    rw [eS] at hr
    refine sp_X11_of (a := a) (p := 2) g18 rfl (by omega) (hC1.2.2.1 a A hA).2.2.1 ?_
    refine And.intro (by omega) ?_
    refine sp_X11_reads (hT.rd hO1') h140 h255 g17 hv.2.1 (by omega) (by omega) (fun s e2 M2 hn2 k17 k18 hO2 => mv_nt ?_) (fun M2 hn2 k17 hO2 => mv_nf ?_)
    · rw [hn2] at hr
      dsimp only at hr
      have hv2 := qp_num_ok hn2 hv.2.1
      have hO2' := hO1'.tr (hO2.wk (fun t k => rf_num_rd))
      have hC2 := hC1.num hw hO2
      refine sp_X11_reads (hT.rd hO2') h140 h255 k17 hv2.2.1 (by omega) (by omega) (fun w e3 M3 hn3 l17 l18 hO3 => mv_nt ?_) (fun M3 hn3 l17 hO3 => mv_nf ?_)
      · rw [hn3] at hr
        dsimp only at hr
        have hv3 := qp_num_ok hn3 hv2.2.1
        have hO3' := hO2'.tr (hO3.wk (fun t k => rf_num_rd))
        have hC3 := hC2.num hw hO3
        have hs3 := qp_skip_ok tx hv3.2.1
        refine sp_X11_takes (c := 120) rfl (by omega) (hT.rd hO3') h140 l17 hv3.2.1 (fun M4 hc hp4 => mv_t ?_) (fun M4 hc hp4 => mv_f ?_)
        · rw [if_pos hc] at hr
          have hlt := qp_at_lt (show qp_at tx (qp_skip tx e3) ≠ 0 by omega)
          have hO4' := hO3'.tr hp4.of
          have hC4 := hp4.c hC3 hw
          refine sp_X11_reads (hT.rd hO4') h140 h255 hp4.1 (by omega) (by omega) (by omega) (fun ht e5 M5 hn5 m17 m18 hO5 => mv_nt ?_) (fun M5 hn5 m17 hO5 => mv_nf ?_)
          · rw [hn5] at hr
            dsimp only at hr
            have hv5 := qp_num_ok hn5 (by omega)
            have hO5' := hO4'.tr (hO5.wk (fun t k => rf_num_rd))
            refine sp_X11_putQuote g18 k18 l18 m18 (hC4.num hw hO5) hw h8 (fun M6 hC6 hO6 => ?_)
            have hO6' := hO5'.tr (hO6.wk (fun t k => rf_con_rd))
            have e6 : M6.1 11 0 17 = (e5 : Int) := (hO6.1 _ _ _ (by unfold rf_con; omega)).trans m17
            rw [hr] at hqok
            refine sp_X11_semi (p := e5) (C := (C.1, C.2.1 ++ [(a, s, w, ht, none)], C.2.2)) (hT.rd hO6') h140 e6 hv5.2.1 hC6 hqok.2.2.1 hO6' (fun M7 x hres => And.intro hres.b (h M7 x ?_))
            rw [hr]
            exact hres
          · rw [hn5] at hr
            exact And.intro (Or.inl rfl) (bad _ M5 (hO4'.tr (hO5.wk (fun t k => rf_num_rd))) m17 hr)
        · rw [if_neg hc] at hr
          exact And.intro (Or.inl rfl) (bad _ M4 (hO3'.tr hp4.of) hp4.1 hr)
      · rw [hn3] at hr
        exact And.intro (Or.inl rfl) (bad _ M3 (hO2'.tr (hO3.wk (fun t k => rf_num_rd))) l17 hr)
    · rw [hn2] at hr
      exact And.intro (Or.inl rfl) (bad _ M2 (hO1'.tr (hO2.wk (fun t k => rf_num_rd))) k17 hr)
  · rw [hn] at hr
    exact And.intro (Or.inl rfl) (bad _ M1 (hO1.wk (fun t k => rf_num_rd)) g17 hr)
set_option maxRecDepth 100000 in
theorem sp_X11_readsItem {tx : List Nat} {s : Nat} {C : qg_C} {M : mv_M} {Q : mv_R} (hT : rr_Tx M tx) (h140 : tx.length ≤ 140) (h255 : ∀ s ∈ tx, s ≤ 255) (hp : M.1 11 0 17 = (s : Int)) (hpl : s ≤ tx.length) (hss : qp_skip tx s = s)
    (hC : rq_C (M.1 24 0) C) (hw : qg_wC C) (hi : qg_inC C) (h : ∀ M' x, rq_res M M' (qp_item tx s C) x → Q (some (.inl x)) M') : E_X11_readsItem [.inr (11, 0)] M Q := by
  refine ev_X11_readsItem ?_
  refine go_X11_readsItem [25, 56] 60 ?_
  obtain ⟨r, hr⟩ : ∃ r, r = qp_item tx s C := ⟨_, rfl⟩
  rw [← hr] at h
  unfold qp_item at hr
  have e0 := hC.n0
  have no : ∀ M1 : mv_M, rr_of rf_rd M M1 → M1.1 11 0 17 = (s : Int) → r = .inl s → J_X11_readsItem Q 56 [some (.inr (11, 0))] [] M1 := by
    intro M1 hO1 g17 hr1
    refine go_X11_readsItem [] 60 ?_
    refine And.intro (Or.inl rfl) (h M1 0 ?_)
    rw [hr1]
    exact ⟨hO1, rfl, g17⟩
  have second : ∀ M1 : mv_M, rr_of rf_rd M M1 → M1.1 11 0 17 = (s : Int) → rq_C (M1.1 24 0) C → ¬ (qp_at tx s = 97 ∧ C.1.length < 6) → J_X11_readsItem Q 25 [some (.inr (11, 0))] [] M1 := by
    intro M1 hO1 g17 hC1 hn1
    rw [if_neg hn1] at hr
    have e1 := hC1.n1
    refine go_X11_readsItem [56] 60 ?_
    refine And.intro (by omega) ?_
    refine And.intro (fun c => no M1 hO1 g17 (by rw [hr, if_neg (by omega)])) (fun c => ?_)
    refine sp_X11_takes (c := 113) rfl (by omega) (hT.rd hO1) h140 g17 hpl (fun M2 hc hp2 => mv_t ?_) (fun M2 hc hp2 => mv_f ?_)
    · rw [hss] at hc hp2
      rw [if_pos ⟨hc, by omega⟩] at hr
      have hlt := qp_at_lt (show qp_at tx s ≠ 0 by omega)
      refine sp_X11_readsQuote (p := s + 1) (hT.rd (hO1.tr hp2.of)) h140 h255 hp2.1 (by omega) (hp2.c hC1 hw) hw (by omega) hi (fun M3 x hres => ?_)
      have hres' : rq_res M M3 r x := by rw [hr]; exact ⟨(hO1.tr hp2.of).tr hres.1, hres.2⟩
      have hh := h M3 x hres'
      rcases hres.b with e | e
      · subst e
        refine mv_f ?_
        refine go_X11_readsItem [] 60 ?_
        exact And.intro (Or.inl rfl) hh
      · subst e
        refine mv_t ?_
        exact And.intro (Or.inr rfl) hh
    · rw [hss] at hc hp2
      exact no M2 (hO1.tr hp2.of) hp2.1 (by rw [hr, if_neg (fun z => hc z.1)])
  refine And.intro (by omega) ?_
  refine And.intro (fun c => second M rr_of.rf hp hC (by omega)) (fun c => ?_)
  refine sp_X11_takes (c := 97) rfl (by omega) hT h140 hp hpl (fun M1 hc hp1 => mv_t ?_) (fun M1 hc hp1 => mv_f ?_)
  · rw [hss] at hc hp1
    rw [if_pos ⟨hc, by omega⟩] at hr
    have hlt := qp_at_lt (show qp_at tx s ≠ 0 by omega)
    refine sp_X11_readsArticle (p := s + 1) (hT.rd hp1.of) h140 h255 hp1.1 (by omega) (hp1.c hC hw) hw (by omega) (fun M3 x hres => And.intro hres.b (h M3 x ?_))
    rw [hr]
    exact ⟨hp1.of.tr hres.1, hres.2⟩
  · rw [hss] at hc hp1
    exact second M1 hp1.of hp1.1 (hp1.c hC hw) (fun z => hc z.1)
set_option maxRecDepth 100000 in
theorem sp_X11_hold {M : mv_M} {Q : mv_R} (h : ∀ M', (∀ k, k < 407 → M'.1 25 0 k = M.1 24 0 k) → rr_of (fun t _ => t = 25) M M' → Q none M') : E_X11_hold [.inr (11, 0)] M Q := by
  refine ev_X11_hold ?_
  refine go_X11_hold [2] 60 ?_
  have hl : ∀ (k : Nat) (M2 : mv_M), k ≤ 407 → (rr_of (fun t _ => t = 25) M M2 ∧ ∀ j, j < k → M2.1 25 0 j = M.1 24 0 j) → J_X11_hold Q 2 [some (.inr (11, 0)), some (.inl (k : Int))] [] M2 := by
    refine mv_loop 407 (fun k M2 hk ih hI => ?_)
    obtain ⟨hO, hn⟩ := hI
    refine go_X11_hold [2] 60 ?_
    refine And.intro (fun c => h M2 (fun j hj => hn j (by omega)) hO) (fun c => ?_)
    refine And.intro (by omega) (And.intro (by omega) (And.intro (by omega) ?_))
    have ek : (k : Int).toNat = k := by omega
    rw [ek]
    refine ih _ (by omega) ⟨hO.up rfl, fun j hj => ?_⟩
    by_cases e : j = k
    · subst e
      exact mv_eqp.trans (hO.1 24 0 j (by omega))
    · exact (mv_nep (by omega)).trans (hn j (by omega))
  exact hl 0 M (by omega) ⟨rr_of.rf, fun j hj => absurd hj (by omega)⟩
set_option maxRecDepth 100000 in
theorem sp_X11_exchange {M : mv_M} {Q : mv_R} (h : ∀ M', (∀ k, k < 407 → M'.1 24 0 k = M.1 25 0 k) → (∀ k, k < 407 → M'.1 25 0 k = M.1 24 0 k) → rr_of (fun t _ => t = 24 ∨ t = 25) M M' → Q none M') : E_X11_exchange [.inr (11, 0)] M Q := by
  refine ev_X11_exchange ?_
  refine go_X11_exchange [2] 60 ?_
  have hl : ∀ (k : Nat) (M2 : mv_M), k ≤ 407 → (rr_of (fun t _ => t = 24 ∨ t = 25) M M2 ∧ (∀ j, j < k → M2.1 24 0 j = M.1 25 0 j ∧ M2.1 25 0 j = M.1 24 0 j) ∧ ∀ j, k ≤ j → M2.1 24 0 j = M.1 24 0 j ∧ M2.1 25 0 j = M.1 25 0 j) → ∀ o, J_X11_exchange Q 2 [some (.inr (11, 0)), some (.inl (k : Int)), o] [] M2 := by
    refine mv_loop 407 (fun k M2 hk ih hI o => ?_)
    obtain ⟨hO, hn, hold⟩ := hI
    refine go_X11_exchange [2] 60 ?_
    refine And.intro (fun c => h M2 (fun j hj => (hn j (by omega)).1) (fun j hj => (hn j (by omega)).2) hO) (fun c => ?_)
    refine And.intro (by omega) (And.intro (by omega) (And.intro (by omega) (And.intro (by omega) (And.intro (by omega) ?_))))
    have ek : (k : Int).toNat = k := by omega
    rw [ek]
    refine ih _ (by omega) ⟨(hO.up (Or.inl rfl)).up (Or.inr rfl), fun j hj => ?_, fun j hj => ⟨(mv_nep (by omega)).trans ((mv_nep (by omega)).trans (hold j (by omega)).1), (mv_nep (by omega)).trans ((mv_nep (by omega)).trans (hold j (by omega)).2)⟩⟩ _
    by_cases e : j = k
    · subst e
      exact ⟨(mv_nep (by omega)).trans (mv_eqp.trans (hold j (Nat.le_refl _)).2), mv_eqp.trans (hold j (Nat.le_refl _)).1⟩
    · exact ⟨(mv_nep (by omega)).trans ((mv_nep (by omega)).trans (hn j (by omega)).1), (mv_nep (by omega)).trans ((mv_nep (by omega)).trans (hn j (by omega)).2)⟩
  exact hl 0 M (by omega) ⟨rr_of.rf, fun j hj => absurd hj (by omega), fun j _ => ⟨rfl, rfl⟩⟩ _
