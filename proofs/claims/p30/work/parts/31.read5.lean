/-! The class's reader: quotes, items, the whole text; load. -/
set_option maxRecDepth 100000 in
theorem sp_X6_readQuote {tx : List Nat} {p : Nat} {C : qg_C} {M : mv_M} {Q : mv_R} (hT : qr_Tx M tx) (h140 : tx.length ≤ 140) (h255 : ∀ s ∈ tx, s ≤ 255) (he : M.1 6 0 3 = -1) (hp : M.1 6 0 4 = (p : Int)) (hpl : p ≤ tx.length)
    (hC : qr_C M 19 C) (hw : qg_wC C) (h8 : C.2.1.length < 8) (h : ∀ M', qr_res M M' (qp_quote tx p C) → Q none M') : E_X6_readQuote [.inr (6, 0)] M Q := by
  refine ev_X6_readQuote ?_
  refine go_X6_readQuote [] 60 ?_
  obtain ⟨r, hr⟩ : ∃ r, r = qp_quote tx p C := ⟨_, rfl⟩
  rw [← hr] at h
  unfold qp_quote at hr
  have e3 : M.1 1 19 3 = (C.1.length : Int) := hC.1
  have h6 := hw.1
  refine And.intro (by omega) ?_
  rw [e3]
  have bad : ∀ {f : Nat} {M2 : mv_M}, r = .inl f → qr_of M M2 → M2.1 6 0 3 = (f : Int) → Q none M2 := by
    intro f M2 h1 h2 h3
    refine h M2 ?_
    rw [h1]
    exact ⟨h2, h3⟩
  refine sp_X6_readNumber hT h140 h255 he hp hpl (by omega) (by omega) (fun a e M1 hn hp1 => ?_) (fun y M1 hn hb1 => ?_)
  · rw [hn] at hr
    dsimp only at hr
    have hv := qp_num_ok hn hpl
    have e31 := hp1.e3.trans he
    have hC1 := hp1.c hC hw
    refine sp_X6_hasFailed (fun c => absurd e31 c) (fun _ => mv_nf ?_)
    refine sp_X1_hasArticle hC1 h6 (fun _ => mv_nt ?_) (fun z => absurd ⟨by omega, by omega⟩ z)
    refine And.intro (by omega) ?_
    have en : ((a : Nat) : Int).toNat = a := by omega
    rw [en]
    obtain ⟨A, hA⟩ := qg_some (show a < C.1.length by omega)
    have hwA := hw.2.2.1 A (List.mem_of_getElem? hA)
    have eS : qp_nS C a = A.2.2.length := by
      unfold qp_nS
      rw [List.getD_eq_getElem?_getD, hA]; rfl
    rw [eS] at hr
    have hA1 := hC1.2.2.1 a A hA
    have e13 : M1.1 0 (6 * 19 + a) 3 = (A.2.2.length : Int) := hA1.2.2.1
    have h8A := hwA.2.2.2.1
    refine And.intro (by omega) ?_
    rw [e13]
    refine sp_X6_readNumber (hp1.tx hT) h140 h255 e31 hp1.1 hv.2.1 (by omega) (by omega) (fun s e2 M2 hn2 hp2 => ?_) (fun y M2 hn2 hb2 => ?_)
    · rw [hn2] at hr
      dsimp only at hr
      have hv2 := qp_num_ok hn2 hv.2.1
      have e32 := hp2.e3.trans e31
      have hp02 := hp1.tr hp2
      refine sp_X6_readNumber (hp02.tx hT) h140 h255 e32 hp2.1 hv2.2.1 (by omega) (by omega) (fun w e3 M3 hn3 hp3 => ?_) (fun y M3 hn3 hb3 => ?_)
      · rw [hn3] at hr
        dsimp only at hr
        have hv3 := qp_num_ok hn3 hv2.2.1
        have e33 := hp3.e3.trans e32
        have hp03 := hp02.tr hp3
        have hs3 := qp_skip_ok tx hv3.2.1
        refine sp_X6_expect (c := 120) rfl (by omega) (hp03.tx hT) h140 e33 hp3.1 hv3.2.1 (fun M4 hx hp4 => ?_) (fun M4 hx hb4 => ?_)
        · rw [if_pos hx] at hr
          have hlt := qp_at_lt (show qp_at tx (qp_skip tx e3) ≠ 0 by omega)
          have e34 := hp4.e3.trans e33
          have hp04 := hp03.tr hp4
          refine sp_X6_readNumber (hp04.tx hT) h140 h255 e34 hp4.1 (by omega) (by omega) (by omega) (fun hh e5 M5 hn5 hp5 => ?_) (fun y M5 hn5 hb5 => ?_)
          · rw [hn5] at hr
            dsimp only at hr
            have e35 := hp5.e3.trans e34
            have hp05 := hp04.tr hp5
            refine sp_X6_hasFailed (fun c => absurd e35 c) (fun _ => mv_nf ?_)
            refine sp_X1_newQuote (hp05.c hC hw) h8 h6 (fun M6 hC6 hf6 => ?_)
            refine h M6 ?_
            rw [hr]
            exact ⟨hp05.of.tr (qr_off.of hf6), (hf6.1 _ _ _ (fun z => qf_C6 z rfl)).trans e35, (hf6.1 _ _ _ (fun z => qf_C6 z rfl)).trans hp5.1, hC6⟩
          · rw [hn5] at hr
            dsimp only at hr
            have hb := hb5.1
            refine sp_X6_hasFailed (fun c => mv_nt ?_) (fun c => absurd c (by omega))
            exact bad hr (hp04.bad hb5).of hb
        · rw [if_neg hx] at hr
          have hb := hb4.1
          refine sp_X6_readNumberF (by omega) ?_
          refine sp_X6_hasFailed (fun c => mv_nt ?_) (fun c => absurd c (by omega))
          exact bad hr (hp03.bad hb4).of hb
      · rw [hn3] at hr
        dsimp only at hr
        have hb := hb3.1
        refine sp_X6_expectF (by omega) ?_
        refine sp_X6_readNumberF (by omega) ?_
        refine sp_X6_hasFailed (fun c => mv_nt ?_) (fun c => absurd c (by omega))
        exact bad hr (hp02.bad hb3).of hb
    · rw [hn2] at hr
      dsimp only at hr
      have hb := hb2.1
      refine sp_X6_readNumberF (by omega) ?_
      refine sp_X6_expectF (by omega) ?_
      refine sp_X6_readNumberF (by omega) ?_
      refine sp_X6_hasFailed (fun c => mv_nt ?_) (fun c => absurd c (by omega))
      exact bad hr (hp1.bad hb2).of hb
  · rw [hn] at hr
    dsimp only at hr
    have hb := hb1.1
    refine sp_X6_hasFailed (fun c => mv_nt ?_) (fun c => absurd c (by omega))
    exact bad hr hb1.of hb
theorem qp_semi_inl {tx : List Nat} {r : Nat ⊕ (Nat × qg_C)} {f : Nat} (h : r = .inl f) : qp_semi tx r = .inl f := by rw [h]; rfl
set_option maxRecDepth 100000 in
theorem sp_X6_readItem {tx : List Nat} {p : Nat} {C : qg_C} {M : mv_M} {Q : mv_R} (hT : qr_Tx M tx) (h140 : tx.length ≤ 140) (h255 : ∀ s ∈ tx, s ≤ 255) (he : M.1 6 0 3 = -1) (hp : M.1 6 0 4 = (p : Int)) (hpl : p ≤ tx.length)
    (hC : qr_C M 19 C) (hw : qg_wC C) (hi : qg_inC C) (h : ∀ M', qr_res M M' (qp_item tx (qp_skip tx p) C) → Q none M') : E_X6_readItem [.inr (6, 0)] M Q := by
  refine ev_X6_readItem ?_
  refine go_X6_readItem [75, 83] 60 ?_
  obtain ⟨r, hr⟩ : ∃ r, r = qp_item tx (qp_skip tx p) C := ⟨_, rfl⟩
  rw [← hr] at h
  unfold qp_item at hr
  have hs := qp_skip_ok tx hpl
  refine sp_X6_nextSign hT h140 hp hpl (fun M1 hp1 => ?_)
  have e31 := hp1.e3.trans he
  have hC1 := hp1.c hC hw
  have e11 : M1.1 1 19 3 = (C.1.length : Int) := hC1.1
  have e12 : M1.1 1 19 4 = (C.2.1.length : Int) := hC1.2.1
  have fin : ∀ (x : Int) (M2 : mv_M) (u : Nat ⊕ (Nat × qg_C)), r = qp_semi tx u → qr_res M M2 u → qp_ok tx (qp_skip tx p + 1) u → J_X6_readItem Q 83 [some (.inr (6, 0)), some (.inl x)] [] M2 := by
    intro x M2 u hru hres hok
    refine go_X6_readItem [] 60 ?_
    cases u with
    | inl f =>
      have h3 : M2.1 6 0 3 = (f : Int) := hres.2
      refine sp_X6_expectF (by omega) ?_
      refine h M2 ?_
      rw [hru]
      exact hres
    | inr y =>
      obtain ⟨e, D⟩ := y
      obtain ⟨k1, k2, k3, k4⟩ := hok
      obtain ⟨ho, h3, h4, hD⟩ := hres
      have hru2 : r = if qp_at tx (qp_skip tx e) = 59 then .inr (qp_skip tx e + 1, D) else .inl (qp_skip tx e) := hru
      refine sp_X6_expect (c := 59) rfl (by omega) (ho.tx hT) h140 h3 h4 k2 (fun M3 hx hp3 => ?_) (fun M3 hx hb3 => ?_)
      · refine h M3 ?_
        rw [hru2, if_pos hx]
        exact ⟨ho.tr hp3.of, hp3.e3.trans h3, hp3.1, hp3.c hD k3⟩
      · refine h M3 ?_
        rw [hru2, if_neg hx]
        exact ⟨ho.tr hb3.of, hb3.1⟩
  have els : ∀ (x : Int), r = .inl (qp_skip tx p) → J_X6_readItem Q 75 [some (.inr (6, 0)), some (.inl x)] [] M1 := by
    intro x hx
    refine go_X6_readItem [83] 60 ?_
    refine sp_X6_failAt hp1.1 e31 (fun M2 hb2 => ?_)
    refine fin x M2 (.inl (qp_skip tx p)) hx ⟨hp1.of.tr hb2.of, hb2.1⟩ hs.2
  have e41 := hp1.1
  have qp : ∀ (c4 : qp_skip tx p < tx.length), ∃ M2 : mv_M, M2 = (mv_up M1.1 6 0 4 (M1.1 6 0 4 + 1), M1.2) ∧ qr_of M M2 ∧ qr_Tx M2 tx ∧ M2.1 6 0 3 = -1 ∧ M2.1 6 0 4 = ((qp_skip tx p + 1 : Nat) : Int) ∧ qr_C M2 19 C := by
    intro c4
    have ho := hp1.of.up (x := M1.1 6 0 4 + 1) (k := 4) (by decide)
    refine ⟨_, rfl, ho, ho.tx hT, (mv_nep (by decide)).trans e31, ?_, hC1.off6 hw (fun t j k hn => mv_nep (fun z => hn z.1))⟩
    refine Eq.trans mv_eqp ?_
    omega
  refine And.intro (fun c1 => ?_) (fun c1 => ?_)
  · rw [if_neg (by omega)] at hr
    refine And.intro (fun c2 => els _ ?_) (fun c2 => ?_)
    · rw [hr, if_neg (by omega)]
    · refine And.intro (fun c3 => els _ ?_) (fun c3 => ?_)
      · rw [hr, if_neg (by omega)]
      · rw [if_pos (by omega)] at hr
        have hlt := qp_at_lt (show qp_at tx (qp_skip tx p) ≠ 0 by omega)
        refine And.intro (by omega) ?_
        obtain ⟨M2, e2, ho2, hT2, h32, h42, hC2⟩ := qp hlt
        subst e2
        refine sp_X6_readQuote hT2 h140 h255 h32 h42 (by omega) hC2 hw (by omega) (fun M3 hr3 => ?_)
        exact fin _ M3 _ hr ⟨ho2.tr hr3.1, hr3.2⟩ (qp_quote_ok (by omega) hw hi (by omega))
  · refine And.intro (fun c3 => ?_) (fun c3 => ?_)
    · rw [if_neg (by omega), if_neg (by omega)] at hr
      refine And.intro (fun c2 => els _ hr) (fun c2 => absurd c2 (by omega))
    · rw [if_pos (by omega)] at hr
      have hlt := qp_at_lt (show qp_at tx (qp_skip tx p) ≠ 0 by omega)
      refine And.intro (by omega) ?_
      obtain ⟨M2, e2, ho2, hT2, h32, h42, hC2⟩ := qp hlt
      subst e2
      refine sp_X6_readArticle hT2 h140 h255 h32 h42 (by omega) hC2 hw (by omega) (fun M3 hr3 => ?_)
      exact fin _ M3 _ hr ⟨ho2.tr hr3.1, hr3.2⟩ (qp_article_ok (by omega) hw hi (by omega))
