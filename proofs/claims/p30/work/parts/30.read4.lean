/-! The class's reader: lines, articles, quotes, items; load. -/
/-- what a reading may change -/
def qr_of (M M' : mv_M) : Prop := (∀ t j k, ¬ (t = 6 ∨ qf_C 19 t j) → M'.1 t j k = M.1 t j k) ∧ M'.2 = M.2 ∧ M'.1 6 0 2 = M.1 6 0 2
def qr_res (M M' : mv_M) (r : Nat ⊕ (Nat × qg_C)) : Prop := qr_of M M' ∧ match r with
  | .inl f => M'.1 6 0 3 = (f : Int)
  | .inr (p, C) => M'.1 6 0 3 = -1 ∧ M'.1 6 0 4 = (p : Int) ∧ qr_C M' 19 C
theorem qr_of.rf {M : mv_M} : qr_of M M := ⟨fun _ _ _ _ => rfl, rfl, rfl⟩
theorem qr_of.tr {M M1 M2 : mv_M} (h : qr_of M M1) (h2 : qr_of M1 M2) : qr_of M M2 := ⟨fun t j k hn => (h2.1 t j k hn).trans (h.1 t j k hn), h2.2.1.trans h.2.1, h2.2.2.trans h.2.2⟩
theorem qr_pos.of {M M1 : mv_M} {s : Nat} (h : qr_pos M M1 s) : qr_of M M1 := ⟨fun t j k hn => h.2.1 t j k (fun z => hn (Or.inl z.1)), h.2.2, h.2.1 _ _ _ (by decide)⟩
theorem qr_bad.of {M M1 : mv_M} {f : Nat} (h : qr_bad M M1 f) : qr_of M M1 := ⟨fun t j k hn => h.2.1 t j k (fun z => hn (Or.inl z)), h.2.2.2, h.2.2.1⟩
theorem qf_C6 {c t j : Nat} (h : qf_C c t j) : t ≠ 6 := by unfold qf_C at h; omega
theorem qr_off.of {M M1 : mv_M} (h : mv_off (qf_C 19) M M1) : qr_of M M1 := ⟨fun t j k hn => h.1 t j k (fun z => hn (Or.inr z)), h.2, h.1 _ _ _ (fun z => qf_C6 z rfl)⟩
theorem qr_of.up {M M1 : mv_M} (h : qr_of M M1) {k : Nat} {x : Int} (hk : k ≠ 2) : qr_of M (mv_up M1.1 6 0 k x, M1.2) :=
  ⟨fun t j i hn => (mv_nep (fun z => hn (Or.inl z.1))).trans (h.1 t j i hn), h.2.1, (mv_nep (by omega)).trans h.2.2⟩
theorem qr_of.tx {M M1 : mv_M} {tx : List Nat} (h : qr_of M M1) (hT : qr_Tx M tx) : qr_Tx M1 tx := ⟨(h.1 _ _ _ (by unfold qf_C; omega)).trans hT.1, fun k x hk => (h.1 _ _ _ (by unfold qf_C; omega)).trans (hT.2 k x hk)⟩
theorem qr_C.off6 {M M1 : mv_M} {c : Nat} {C : qg_C} (h : qr_C M c C) (hw : qg_wC C) (h0 : ∀ t j k, ¬ t = 6 → M1.1 t j k = M.1 t j k) : qr_C M1 c C := h.fr hw (fun t j k hf => h0 t j k (qf_C6 hf))
theorem qr_pos.c {M M1 : mv_M} {s c : Nat} {C : qg_C} (h : qr_pos M M1 s) (hC : qr_C M c C) (hw : qg_wC C) : qr_C M1 c C := hC.off6 hw (fun t j k hn => h.2.1 t j k (fun z => hn z.1))
theorem qp_num_skip (tx : List Nat) (lo hi : Int) (p : Nat) : qp_num tx lo hi (qp_skip tx p) = qp_num tx lo hi p := by
  unfold qp_num
  rw [qp_skip_skip]
set_option maxRecDepth 100000 in
theorem sp_X6_readLines {tx : List Nat} {a p : Nat} {C : qg_C} {M : mv_M} {Q : mv_R} (hT : qr_Tx M tx) (h140 : tx.length ≤ 140) (h255 : ∀ s ∈ tx, s ≤ 255) (he : M.1 6 0 3 = -1) (hp : M.1 6 0 4 = (p : Int)) (hpl : p ≤ tx.length)
    (hC : qr_C M 19 C) (hw : qg_wC C) (ha : a < C.1.length) (h : ∀ M', qr_res M M' (qp_lines tx a 9 p C) → Q none M') : E_X6_readLines [.inr (6, 0), .inr (0, 6 * 19 + a)] M Q := by
  refine ev_X6_readLines ?_
  refine go_X6_readLines [2] 60 ?_
  obtain ⟨r, hr⟩ : ∃ r, r = qp_lines tx a 9 p C := ⟨_, rfl⟩
  rw [← hr] at h
  have hl : ∀ (i : Nat) (q : mv_M × Nat × qg_C), i ≤ 9 → (qr_of M q.1 ∧ q.1.1 6 0 3 = -1 ∧ q.1.1 6 0 4 = (q.2.1 : Int) ∧ q.2.1 ≤ tx.length ∧ qr_C q.1 19 q.2.2 ∧ qg_wC q.2.2 ∧ (∃ A, q.2.2.1[a]? = some A ∧ i ≤ A.2.2.length) ∧ qp_lines tx a (9 - i) q.2.1 q.2.2 = r) → ∀ (x : Int) o1 o2, x = (i : Int) →
      J_X6_readLines Q 2 [some (.inr (6, 0)), some (.inr (0, 6 * 19 + a)), some (.inl x), o1, o2] [] q.1 := by
    refine mv_loop 9 (fun i q hi ih hI x o1 o2 hx => ?_)
    obtain ⟨M1, p1, C1⟩ := q
    obtain ⟨ho, e3, e4, hp1, hC1, hw1, ⟨A, hA, hiA⟩, hR⟩ := hI
    dsimp only at ho e3 e4 hp1 hC1 hw1 hA hR ⊢
    have hwA := hw1.2.2.1 A (List.mem_of_getElem? hA)
    have hi8 : i ≤ 8 := Nat.le_trans hiA hwA.2.2.2.1
    have hT1 := ho.tx hT
    rw [show 9 - i = (8 - i) + 1 by omega, qp_lines_succ, hA] at hR
    dsimp only at hR
    refine go_X6_readLines [2] 60 ?_
    refine And.intro (fun c => absurd c (by omega)) (fun _ => ?_)
    refine sp_X6_hasFailed (fun c => absurd e3 c) (fun _ => mv_nf ?_)
    refine sp_X6_nextSign hT1 h140 e4 hp1 (fun M2 hp2 => ?_)
    have hs := qp_skip_ok tx hp1
    have hC2 := hp2.c hC1 hw1
    have hA2 := hC2.2.2.1 a A hA
    have e32 : M2.1 6 0 3 = -1 := hp2.e3.trans e3
    have el : M2.1 0 (6 * 19 + a) 2 = (A.2.1 : Int) := hA2.2.1
    have hb := hwA.2.2.1
    refine And.intro (by omega) ?_
    rw [el]
    have e42 := hp2.1
    rw [e42]
    refine sp_X6_readNumber (hp2.tx hT1) h140 h255 e32 hp2.1 hs.2 (by omega) (by omega) (fun v e M3 hn hp3 => ?_) (fun y M3 hn hb3 => ?_)
    · rw [qp_num_skip] at hn
      rw [hn] at hR
      dsimp only at hR
      have hv := qp_num_ok hn hp1
      have e33 : M3.1 6 0 3 = -1 := hp3.e3.trans e32
      have hC3 := hp3.c hC2 hw1
      have hA3 := hC3.2.2.1 a A hA
      have e13 : M3.1 0 (6 * 19 + a) 3 = (A.2.2.length : Int) := hA3.2.2.1
      have ho3 : qr_of M M3 := (ho.tr hp2.of).tr hp3.of
      refine sp_X6_hasFailed (fun c => absurd e33 c) (fun _ => mv_f ?_)
      refine And.intro (fun c => ?_) (fun c => ?_)
      · have h8 : A.2.2.length < 8 := by omega
        rw [if_pos h8] at hR
        refine sp_X0_newSentence hA3 h8 (fun M4 hA4 hf4 => ?_)
        have hw4 := qg_wC_addS hw1 hA h8 (l := v) (by omega)
        have hC4 : qr_C M4 19 (qp_addS C1 a v) := by
          rw [qp_addS_eq hA]
          exact hC3.setA hA4 (fun t j k hn => hf4.1 t j k hn)
        have ho4 : qr_of M M4 := by
          have ha1 : a < 6 := by have := (List.getElem?_eq_some_iff.mp hA).1; have := hw1.1; omega
          refine ho3.tr ⟨fun t j k hn => hf4.1 t j k (fun z => hn (Or.inr ?_)), hf4.2, hf4.1 _ _ _ (by omega)⟩
          unfold qf_C; omega
        have e34 : M4.1 6 0 3 = -1 := (hf4.1 _ _ _ (by omega)).trans e33
        have e44 : M4.1 6 0 4 = (e : Int) := (hf4.1 _ _ _ (by omega)).trans hp3.1
        refine sp_X6_nextSign (ho4.tx hT) h140 e44 hv.2.1 (fun M5 hp5 => ?_)
        have hs5 := qp_skip_ok tx hv.2.1
        have ho5 := ho4.tr hp5.of
        refine And.intro (fun c5 => ?_) (fun c5 => ?_)
        · rw [if_pos (by omega)] at hR
          have e45 := hp5.1
          have hlt := qp_at_lt (show qp_at tx (qp_skip tx e) ≠ 0 by omega)
          refine And.intro (by omega) ?_
          refine And.intro (by omega) ?_
          refine ih (_, qp_skip tx e + 1, qp_addS C1 a v) (by omega) ⟨ho5.up (by decide), (mv_nep (by decide)).trans (hp5.e3.trans e34), ?_, by show qp_skip tx e + 1 ≤ _; omega, ?_, hw4, ⟨_, qp_addS_at hA, by simp; omega⟩, ?_⟩ _ _ _ (by omega)
          · refine Eq.trans mv_eqp ?_
            show _ = ((qp_skip tx e + 1 : Nat) : Int)
            omega
          · exact (hp5.c hC4 hw4).off6 hw4 (fun t j k hn => mv_nep (fun z => hn z.1))
          · rw [← hR]
            congr 1
            omega
        · rw [if_neg (by omega)] at hR
          refine h M5 ?_
          rw [← hR]
          exact ⟨ho5, hp5.e3.trans e34, hp5.1, hp5.c hC4 hw4⟩
      · rw [if_neg (by omega)] at hR
        refine sp_X6_failAt rfl e33 (fun M4 hb4 => ?_)
        refine h M4 ?_
        rw [← hR]
        exact ⟨ho3.tr hb4.of, hb4.1⟩
    · rw [qp_num_skip] at hn
      rw [hn] at hR
      dsimp only at hR
      have hR' : r = .inl (qp_skip tx p1) := by
        rw [← hR]; split <;> rfl
      have hb1 := hb3.1
      refine sp_X6_hasFailed (fun c => mv_t ?_) (fun c => absurd c (by omega))
      refine h M3 ?_
      rw [hR']
      refine ⟨(ho.tr hp2.of).tr hb3.of, ?_⟩
      show M3.1 6 0 3 = _
      rw [hb1, qp_skip_skip]
  obtain ⟨A, hA⟩ := qg_some ha
  exact hl 0 (M, p, C) (by omega) ⟨qr_of.rf, he, hp, hpl, hC, hw, ⟨A, hA, Nat.zero_le _⟩, hr.symm⟩ _ _ _ rfl
set_option maxRecDepth 100000 in
theorem sp_X6_readArticle {tx : List Nat} {p : Nat} {C : qg_C} {M : mv_M} {Q : mv_R} (hT : qr_Tx M tx) (h140 : tx.length ≤ 140) (h255 : ∀ s ∈ tx, s ≤ 255) (he : M.1 6 0 3 = -1) (hp : M.1 6 0 4 = (p : Int)) (hpl : p ≤ tx.length)
    (hC : qr_C M 19 C) (hw : qg_wC C) (h6 : C.1.length < 6) (h : ∀ M', qr_res M M' (qp_article tx p C) → Q none M') : E_X6_readArticle [.inr (6, 0)] M Q := by
  refine ev_X6_readArticle ?_
  refine go_X6_readArticle [] 60 ?_
  obtain ⟨r, hr⟩ : ∃ r, r = qp_article tx p C := ⟨_, rfl⟩
  rw [← hr] at h
  unfold qp_article at hr
  refine sp_X6_readNumber hT h140 h255 he hp hpl (by omega) (by omega) (fun s e M1 hn hp1 => ?_) (fun y M1 hn hb1 => ?_)
  · rw [hn] at hr
    dsimp only at hr
    have hv := qp_num_ok hn hpl
    have e31 := hp1.e3.trans he
    refine sp_X6_readNumber (hp1.tx hT) h140 h255 e31 hp1.1 hv.2.1 (by omega) (by omega) (fun l e2 M2 hn2 hp2 => ?_) (fun y M2 hn2 hb2 => ?_)
    · rw [hn2] at hr
      dsimp only at hr
      have hv2 := qp_num_ok hn2 hv.2.1
      have e32 := hp2.e3.trans e31
      have ho2 := hp1.of.tr hp2.of
      have hC2 := hp2.c (hp1.c hC hw) hw
      refine sp_X6_hasFailed (fun c => absurd e32 c) (fun _ => mv_f ?_)
      refine sp_X1_newArticle hC2 h6 hw.2.1 (fun M3 hC3 hf3 => ?_)
      have hw3 := qg_wC_addA hw h6 (s := s) (l := l) (by omega) (by omega) (by omega)
      have ho3 := ho2.tr (qr_off.of hf3)
      have e33 : M3.1 6 0 3 = -1 := (hf3.1 _ _ _ (fun z => qf_C6 z rfl)).trans e32
      have e43 : M3.1 6 0 4 = (e2 : Int) := (hf3.1 _ _ _ (fun z => qf_C6 z rfl)).trans hp2.1
      refine sp_X6_nextSign (ho3.tx hT) h140 e43 hv2.2.1 (fun M4 hp4 => ?_)
      have hs4 := qp_skip_ok tx hv2.2.1
      have ho4 := ho3.tr hp4.of
      have hC4 := hp4.c hC3 hw3
      have e34 := hp4.e3.trans e33
      have e44 := hp4.1
      refine And.intro (fun c => ?_) (fun c => ?_)
      · rw [if_neg (by omega)] at hr
        refine h M4 ?_
        rw [hr]
        exact ⟨ho4, e34, e44, hC4⟩
      · rw [if_pos (by omega)] at hr
        have hlt := qp_at_lt (show qp_at tx (qp_skip tx e2) ≠ 0 by omega)
        refine sp_X1_hasArticle hC4 hw3.1 (fun _ => mv_t ?_) (fun z => absurd ⟨by omega, by simp; omega⟩ z)
        refine And.intro (by omega) ?_
        refine And.intro (by omega) ?_
        have en : ((C.1.length : Nat) : Int).toNat = C.1.length := by omega
        rw [en]
        refine sp_X6_readLines (C := (C.1 ++ [(s, l, [])], C.2)) (p := qp_skip tx e2 + 1) (tx := tx) ?_ h140 h255 ?_ ?_ (by omega) ?_ hw3 (by simp) (fun M5 hr5 => ?_)
        · exact ⟨(mv_nep (by decide)).trans (ho4.tx hT).1, fun k x hk => (mv_nep (by omega)).trans ((ho4.tx hT).2 k x hk)⟩
        · exact (mv_nep (by decide)).trans e34
        · refine Eq.trans mv_eqp ?_
          omega
        · exact hC4.off6 hw3 (fun t j k hn => mv_nep (fun z => hn z.1))
        · refine h M5 ?_
          rw [hr]
          exact ⟨(ho4.up (by decide)).tr hr5.1, hr5.2⟩
    · rw [hn2] at hr
      dsimp only at hr
      have hb := hb2.1
      refine sp_X6_hasFailed (fun c => mv_t ?_) (fun c => absurd c (by omega))
      refine h M2 ?_
      rw [hr]
      exact ⟨hp1.of.tr hb2.of, hb⟩
  · rw [hn] at hr
    dsimp only at hr
    have hb := hb1.1
    refine sp_X6_readNumberF (by omega) ?_
    refine sp_X6_hasFailed (fun c => mv_t ?_) (fun c => absurd c (by omega))
    refine h M1 ?_
    rw [hr]
    exact ⟨hb1.of, hb⟩
