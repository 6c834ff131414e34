/-! The reference: quotes and articles are removed. -/
def rq_Qs (f : Nat → Int) (qs : List qg_Q) : Prop := f 1 = (qs.length : Int) ∧ ∀ (i : Nat) (q : qg_Q), qs[i]? = some q → rq_Q f (71 + 8 * i) q
def rq_As (f : Nat → Int) (as : List qg_A) : Prop := f 0 = (as.length : Int) ∧ ∀ (i : Nat) (a : qg_A), as[i]? = some a → rq_A f (5 + 11 * i) a
def rf_qs (t k : Nat) : Prop := t = 24 ∧ (k = 1 ∨ (71 ≤ k ∧ k < 135))
def rf_as (t k : Nat) : Prop := t = 24 ∧ (k = 0 ∨ (5 ≤ k ∧ k < 71))
theorem rq_Qs.set {f g : Nat → Int} {qs : List qg_Q} {n : Nat} {q : qg_Q} (h : rq_Qs f qs) (hn : n < qs.length) (hq : rq_Q g (71 + 8 * n) q) (h0 : ∀ k, ¬ (71 + 8 * n ≤ k ∧ k < 71 + 8 * n + 8) → g k = f k) : rq_Qs g (qs.set n q) := by
  refine ⟨(h0 1 (by omega)).trans (by rw [h.1]; simp), fun i r hr => ?_⟩
  rw [List.getElem?_set] at hr
  by_cases e : n = i
  · subst e
    rw [if_pos rfl, if_pos hn] at hr
    cases hr
    exact hq
  · rw [if_neg e] at hr
    exact (h.2 i r hr).fr (fun k hk => h0 _ (by omega))
set_option maxRecDepth 100000 in
theorem sp_X11_takeQuote {n : Nat} {x : Int} {qs : List qg_Q} {M : mv_M} {Q : mv_R} (ex : x = (n : Int)) (hQ : rq_Qs (M.1 24 0) qs) (hn : n < qs.length) (h8 : qs.length ≤ 8) (h : ∀ M', rq_Qs (M'.1 24 0) (qs.eraseIdx n) → rr_of rf_qs M M' → Q none M') : E_X11_takeQuote [.inr (11, 0), .inl x] M Q := by
  subst ex
  refine ev_X11_takeQuote ?_
  refine go_X11_takeQuote [18] 60 ?_
  have e1 : M.1 24 0 (1 : Int).toNat = (qs.length : Int) := hQ.1
  obtain ⟨m, hm⟩ : ∃ m, m + 1 = qs.length := ⟨qs.length - 1, by omega⟩
  have hl : ∀ (k : Nat) (M1 : mv_M), k ≤ 71 + 8 * m → (71 + 8 * n ≤ k ∧ rr_of rf_qs M M1 ∧ M1.1 24 0 (1 : Int).toNat = (m : Int) ∧ (∀ j, 71 + 8 * n ≤ j → j < k → M1.1 24 0 j = M.1 24 0 (j + 8)) ∧ ∀ j, 71 ≤ j → ¬ (71 + 8 * n ≤ j ∧ j < k) → M1.1 24 0 j = M.1 24 0 j) →
      ∀ x : Int, x = (k : Int) → J_X11_takeQuote Q 18 [some (.inr (11, 0)), some (.inl (n : Int)), some (.inl x)] [] M1 := by
    refine mv_loop (71 + 8 * m) (fun k M1 hk ih hI x hx => ?_)
    subst hx
    obtain ⟨hkn, hO, g1, hnew, hold⟩ := hI
    refine go_X11_takeQuote [18] 60 ?_
    refine And.intro (by omega) (And.intro (by omega) (And.intro (by omega) ?_))
    refine And.intro (fun c1 => ?_) (fun c1 => ?_)
    · have hk2 : k = 71 + 8 * m := by omega
      subst hk2
      refine h M1 ⟨?_, fun i q hq => ?_⟩ hO
      · refine (show M1.1 24 0 1 = (m : Int) from g1).trans ?_
        rw [List.length_eraseIdx, if_pos hn]
        omega
      · have hlt := (List.getElem?_eq_some_iff.mp hq).1
        rw [List.length_eraseIdx, if_pos hn] at hlt
        rw [List.getElem?_eraseIdx] at hq
        by_cases hi : i < n
        · rw [if_pos hi] at hq
          exact (hQ.2 i q hq).fr (fun k hk => hold _ (by omega) (by omega))
        · rw [if_neg hi] at hq
          refine (hQ.2 (i + 1) q hq).fr (fun k hk => (hnew _ (by omega) (by omega)).trans ?_)
          rw [show 71 + 8 * i + k + 8 = 71 + 8 * (i + 1) + k by omega]
    · refine And.intro (by omega) (And.intro (by omega) (And.intro (by omega) (And.intro (by omega) ?_)))
      have ek : (k : Int).toNat = k := by omega
      have ek8 : ((k : Int) + 8).toNat = k + 8 := by omega
      rw [ek, ek8]
      refine ih _ (by omega) ⟨by omega, hO.up (by unfold rf_qs; omega), (mv_nep (by omega)).trans g1, fun j j1 j2 => ?_, fun j j1 j2 => ?_⟩ _ (by omega)
      · by_cases e : j = k
        · subst e
          exact mv_eqp.trans (hold _ (by omega) (by omega))
        · exact (mv_nep (by omega)).trans (hnew j j1 (by omega))
      · exact (mv_nep (by omega)).trans (hold j j1 (by omega))
  refine And.intro (by omega) (And.intro (by omega) (And.intro (by omega) (And.intro (by omega) (And.intro (by omega) ?_))))
  refine hl (71 + 8 * n) _ (by omega) ⟨Nat.le_refl _, rr_of.rf.up (by unfold rf_qs; exact ⟨rfl, Or.inl rfl⟩), mv_eqp.trans (by omega), fun j j1 j2 => absurd j2 (by omega), fun j j1 _ => mv_nep (fun z => ?_)⟩ _ (by omega)
  have z2 : j = 1 := z.2.2
  omega
theorem rq_C.Qs {f : Nat → Int} {C : qg_C} (h : rq_C f C) : rq_Qs f C.2.1 := ⟨h.2.1, h.2.2.2.1⟩
theorem rq_C.withQs {f g : Nat → Int} {C : qg_C} {qs : List qg_Q} (h : rq_C f C) (hw : qg_wC C) (hQ : rq_Qs g qs) (h0 : ∀ k, ¬ (k = 1 ∨ (71 ≤ k ∧ k < 135)) → g k = f k) : rq_C g (C.1, qs, C.2.2) := by
  have h6 := hw.1
  refine ⟨(h0 0 (by omega)).trans h.1, hQ.1, fun i a ha => (h.2.2.1 i a ha).fr (hw.2.2.1 a (List.mem_of_getElem? ha)).2.2.2.1 (fun k hk => h0 _ ?_), hQ.2, (h0 2 (by omega)).trans h.2.2.2.2.1, (h0 3 (by omega)).trans h.2.2.2.2.2.1, (h0 4 (by omega)).trans h.2.2.2.2.2.2⟩
  have ha : C.1[i]? = some a := ha
  have := (List.getElem?_eq_some_iff.mp ha).1
  omega
theorem rf_qs_con {t k : Nat} (h : rf_qs t k) : rf_con t k := by unfold rf_qs at h; unfold rf_con; omega
set_option maxRecDepth 100000 in
theorem sp_X11_removeQuote {F : qg_F} {q : Int} {M : mv_M} {Q : mv_R} (hZ : rr_Z M F) (hw : qg_wF F) (h : ∀ M', rr_Z M' (op_removeQuote F q).2 → rr_of rf_X M M' → Q (some (.inl (op_removeQuote F q).1)) M') : E_X11_removeQuote [.inr (11, 0), .inl q] M Q := by
  refine ev_X11_removeQuote ?_
  refine go_X11_removeQuote [] 60 ?_
  have hZ0 := hZ.R hw rr_th
  have hO0 := (rr_th (M := M)).wk (fun t k => rf_R_X)
  obtain ⟨M0, hM0⟩ : ∃ M0 : mv_M, M0 = (mv_up M.1 11 0 0 0, M.2) := ⟨_, rfl⟩
  rw [← hM0] at hZ0 hO0
  show E_X11_isQuote [.inr (11, 0), .inl q] (mv_up M.1 11 0 0 0, M.2) _
  rw [← hM0]
  unfold op_removeQuote at h
  have hwC := hw.1.1.1
  refine sp_X11_isQuote hZ0.1.1 hwC.2.1 (fun c1 => mv_nt ?_) (fun c1 => mv_nf ?_)
  · rw [if_pos c1] at h
    obtain ⟨n, rfl⟩ := Int.eq_ofNat_of_zero_le c1.1
    refine sp_X11_act hZ0 hw (fun M1 hZ1 hO1 => ?_)
    refine sp_X11_takeQuote rfl hZ1.1.1.Qs (show n < F.1.1.2.1.length by omega) hwC.2.1 (fun M2 hQ2 hO2 => ?_)
    have hC2 := hZ1.1.1.withQs hwC hQ2 (fun k hk => hO2.1 24 0 k (by unfold rf_qs; omega))
    have hh := h M2 (hZ1.wc (qg_wF_act hw) hC2 (hO2.wk (fun t k z => rf_con_RC (rf_qs_con z)))) ((hO0.tr (hO1.wk (fun t k => rf_act_X))).tr (hO2.wk (fun t k z => rf_RC_X (rf_con_RC (rf_qs_con z)))))
    have e1 : M2.1 24 0 (1 : Int).toNat = (F.1.1.2.1.length : Int) - 1 := by
      refine (show M2.1 24 0 1 = _ from hQ2.1).trans ?_
      rw [show (qg_act F).1.1.2.1 = F.1.1.2.1 from rfl, List.length_eraseIdx, if_pos (show n < F.1.1.2.1.length by omega)]
      omega
    refine And.intro (by omega) ?_
    rw [← e1] at hh
    exact hh
  · rw [if_neg c1] at h
    exact h M0 hZ0 hO0
set_option maxRecDepth 100000 in
theorem sp_X11_removeArticle {F : qg_F} {a : Int} {M : mv_M} {Q : mv_R} (hZ : rr_Z M F) (hw : qg_wF F) (h : ∀ M', rr_Z M' (op_removeArticle F a).2 → rr_of rf_X M M' → Q (some (.inl (op_removeArticle F a).1)) M') : E_X11_removeArticle [.inr (11, 0), .inl a] M Q := by
  refine ev_X11_removeArticle ?_
  refine go_X11_removeArticle [28] 60 ?_
  have hZ0 := hZ.R hw rr_th
  have hO0 := (rr_th (M := M)).wk (fun t k => rf_R_X)
  obtain ⟨M0, hM0⟩ : ∃ M0 : mv_M, M0 = (mv_up M.1 11 0 0 0, M.2) := ⟨_, rfl⟩
  rw [← hM0] at hZ0 hO0
  show E_X11_isArticle [.inr (11, 0), .inl a] (mv_up M.1 11 0 0 0, M.2) _
  rw [← hM0]
  unfold op_removeArticle at h
  have hwC := hw.1.1.1
  have h6 := hwC.1
  have h8 := hwC.2.1
  refine sp_X11_isArticle hZ0.1.1 h6 (fun c1 => mv_nt ?_) (fun c1 => mv_nf ?_)
  · rw [if_pos c1] at h
    obtain ⟨n, rfl⟩ := Int.eq_ofNat_of_zero_le c1.1
    have hn : n < F.1.1.1.length := by omega
    refine sp_X11_act hZ0 hw (fun M1 hZ1 hO1 => ?_)
    have hC1 : rq_C (M1.1 24 0) F.1.1 := hZ1.1.1
    obtain ⟨fs, hfs⟩ : ∃ fs, fs = F.1.1.2.1.filter (fun q => !(q.1 == n)) := ⟨_, rfl⟩
    have hf8 : fs.length ≤ 8 := by rw [hfs]; exact Nat.le_trans (List.length_filter_le _ _) h8
    -- the articles behind it move up
    obtain ⟨m, hm⟩ : ∃ m, m + 1 = F.1.1.1.length := ⟨F.1.1.1.length - 1, by omega⟩
    have l3 : ∀ (M2 : mv_M), rr_of rf_qs M1 M2 → rq_Qs (M2.1 24 0) (fs.map (qg_dec n)) → ∀ o, J_X11_removeArticle Q 104 [some (.inr (11, 0)), some (.inl (n : Int)), o] [] M2 := by
      intro M2 hO2 hQ2 o
      have k0 : M2.1 24 0 (0 : Int).toNat = (F.1.1.1.length : Int) := (hO2.1 24 0 0 (by unfold rf_qs; omega)).trans hC1.1
      have hl : ∀ (k : Nat) (M3 : mv_M), k ≤ 5 + 11 * m → (5 + 11 * n ≤ k ∧ rr_of rf_as M2 M3 ∧ M3.1 24 0 (0 : Int).toNat = (m : Int) ∧ (∀ j, 5 + 11 * n ≤ j → j < k → M3.1 24 0 j = M2.1 24 0 (j + 11)) ∧ ∀ j, 5 ≤ j → ¬ (5 + 11 * n ≤ j ∧ j < k) → M3.1 24 0 j = M2.1 24 0 j) →
          ∀ x : Int, x = (k : Int) → J_X11_removeArticle Q 121 [some (.inr (11, 0)), some (.inl (n : Int)), some (.inl x)] [] M3 := by
        refine mv_loop (5 + 11 * m) (fun k M3 hk ih hI x hx => ?_)
        subst hx
        obtain ⟨hkn, hO3, g0, hnew, hold⟩ := hI
        refine go_X11_removeArticle [121] 60 ?_
        refine And.intro (by omega) (And.intro (by omega) (And.intro (by omega) ?_))
        refine And.intro (fun c2 => ?_) (fun c2 => ?_)
        · have hk2 : k = 5 + 11 * m := by omega
          subst hk2
          have o24 : ∀ j, ¬ (j = 0 ∨ (5 ≤ j ∧ j < 71)) → M3.1 24 0 j = M2.1 24 0 j := fun j hj => hO3.1 24 0 j (by unfold rf_as; omega)
          have o12 : ∀ j, ¬ (j = 1 ∨ (71 ≤ j ∧ j < 135)) → M2.1 24 0 j = M1.1 24 0 j := fun j hj => hO2.1 24 0 j (by unfold rf_qs; omega)
          have hC3 : rq_C (M3.1 24 0) (F.1.1.1.eraseIdx n, qg_dropQs n F.1.1.2.1, F.1.1.2.2) := by
            refine ⟨?_, ?_, fun i b hb => ?_, fun i q hq => ?_, (o24 2 (by omega)).trans ((o12 2 (by omega)).trans hC1.2.2.2.2.1), (o24 3 (by omega)).trans ((o12 3 (by omega)).trans hC1.2.2.2.2.2.1), (o24 4 (by omega)).trans ((o12 4 (by omega)).trans hC1.2.2.2.2.2.2)⟩
            · refine (show M3.1 24 0 0 = (m : Int) from g0).trans ?_
              show (m : Int) = ((F.1.1.1.eraseIdx n).length : Int)
              rw [List.length_eraseIdx, if_pos hn]
              omega
            · refine (o24 1 (by omega)).trans (hQ2.1.trans ?_)
              show _ = ((qg_dropQs n F.1.1.2.1).length : Int)
              unfold qg_dropQs
              rw [← hfs]
            · have hb : (F.1.1.1.eraseIdx n)[i]? = some b := hb
              have hlt := (List.getElem?_eq_some_iff.mp hb).1
              rw [List.length_eraseIdx, if_pos hn] at hlt
              rw [List.getElem?_eraseIdx] at hb
              by_cases hi : i < n
              · rw [if_pos hi] at hb
                exact (hC1.2.2.1 i b hb).fr (hwC.2.2.1 b (List.mem_of_getElem? hb)).2.2.2.1 (fun k hk => (hold _ (by omega) (by omega)).trans (o12 _ (by omega)))
              · rw [if_neg hi] at hb
                have := (List.getElem?_eq_some_iff.mp hb).1
                refine (hC1.2.2.1 (i + 1) b hb).fr (hwC.2.2.1 b (List.mem_of_getElem? hb)).2.2.2.1 (fun k hk => (hnew _ (by omega) (by omega)).trans ((o12 _ (by omega)).trans ?_))
                rw [show 5 + 11 * i + k + 11 = 5 + 11 * (i + 1) + k by omega]
            · have hq : (qg_dropQs n F.1.1.2.1)[i]? = some q := hq
              have hle := qg_dropQs_len n F.1.1.2.1
              have := (List.getElem?_eq_some_iff.mp hq).1
              unfold qg_dropQs at hq
              rw [← hfs] at hq
              exact (hQ2.2 i q hq).fr (fun k hk => o24 _ (by omega))
          have hO13 : rr_of rf_con M1 M3 := (hO2.wk (fun t k => rf_qs_con)).tr (hO3.wk (fun t k z => by unfold rf_as at z; unfold rf_con; omega))
          have hh := h M3 (hZ1.wc (qg_wF_act hw) hC3 (hO13.wk (fun t k => rf_con_RC))) ((hO0.tr (hO1.wk (fun t k => rf_act_X))).tr (hO13.wk (fun t k z => rf_RC_X (rf_con_RC z))))
          refine And.intro (by omega) ?_
          have ee : M3.1 24 0 (0 : Int).toNat = (F.1.1.1.length : Int) - 1 := by omega
          rw [← ee] at hh
          exact hh
        · refine And.intro (by omega) (And.intro (by omega) (And.intro (by omega) (And.intro (by omega) ?_)))
          have ek : (k : Int).toNat = k := by omega
          have ek8 : ((k : Int) + 11).toNat = k + 11 := by omega
          rw [ek, ek8]
          refine ih _ (by omega) ⟨by omega, hO3.up (by unfold rf_as; omega), (mv_nep (by omega)).trans g0, fun j j1 j2 => ?_, fun j j1 j2 => ?_⟩ _ (by omega)
          · by_cases e : j = k
            · subst e
              exact mv_eqp.trans (hold _ (by omega) (by omega))
            · exact (mv_nep (by omega)).trans (hnew j j1 (by omega))
          · exact (mv_nep (by omega)).trans (hold j j1 (by omega))
      refine go_X11_removeArticle [121] 60 ?_
      refine And.intro (by omega) (And.intro (by omega) (And.intro (by omega) (And.intro (by omega) (And.intro (by omega) ?_))))
      refine hl (5 + 11 * n) _ (by omega) ⟨Nat.le_refl _, rr_of.rf.up (by unfold rf_as; exact ⟨rfl, Or.inl rfl⟩), mv_eqp.trans (by omega), fun j j1 j2 => absurd j2 (by omega), fun j j1 _ => mv_nep (fun z => ?_)⟩ _ (by omega)
      have z2 : j = 0 := z.2.2
      omega
    -- the quotes of the articles behind it
    have l2 : ∀ (k : Nat) (M2 : mv_M), k ≤ fs.length → (rr_of rf_qs M1 M2 ∧ rq_Qs (M2.1 24 0) ((fs.take k).map (qg_dec n) ++ fs.drop k)) → J_X11_removeArticle Q 55 [some (.inr (11, 0)), some (.inl (n : Int)), some (.inl (k : Int))] [] M2 := by
      refine mv_loop fs.length (fun k M2 hk ih hI => ?_)
      obtain ⟨hO2, hQ2⟩ := hI
      have e1 : M2.1 24 0 (1 : Int).toNat = (fs.length : Int) := by
        refine (show M2.1 24 0 1 = _ from hQ2.1).trans ?_
        simp
        omega
      refine go_X11_removeArticle [55, 104, 98] 60 ?_
      refine And.intro (by omega) ?_
      refine And.intro (fun c2 => ?_) (fun c2 => ?_)
      · have hk2 : k = fs.length := by omega
        subst hk2
        rw [List.take_length, List.drop_length, List.append_nil] at hQ2
        exact l3 M2 hO2 hQ2 _
      · have hlt : k < fs.length := by omega
        obtain ⟨q, hq⟩ := qg_some hlt
        have hlen : ((fs.take k).map (qg_dec n)).length = k := by simp; omega
        have hsp : (fs.take k).map (qg_dec n) ++ fs.drop k = (fs.take k).map (qg_dec n) ++ q :: fs.drop (k + 1) := by rw [qg_drop_cons hq]
        have hat : ((fs.take k).map (qg_dec n) ++ fs.drop k)[k]? = some q := by
          rw [hsp, List.getElem?_append_right (by omega), hlen, Nat.sub_self]; rfl
        have hr := hQ2.2 k q hat
        have hq6 : q.1 < 6 := by
          have hmem : q ∈ F.1.1.2.1 := by
            have := List.mem_of_getElem? hq
            rw [hfs] at this
            exact (List.mem_filter.mp this).1
          obtain ⟨A, hA, _⟩ := (hwC.2.2.2.1 q hmem).2
          have := (List.getElem?_eq_some_iff.mp hA).1
          omega
        have hnx : (fs.take (k + 1)).map (qg_dec n) ++ fs.drop (k + 1) = ((fs.take k).map (qg_dec n) ++ fs.drop k).set k (qg_dec n q) := by
          rw [hsp]
          have := qg_set_mid ((fs.take k).map (qg_dec n)) q (qg_dec n q) (fs.drop (k + 1))
          rw [hlen] at this
          rw [this, qg_take hq]
          simp
        have fin : ∀ v : Int, v = ((qg_dec n q).1 : Int) → J_X11_removeArticle Q 98 [some (.inr (11, 0)), some (.inl (n : Int)), some (.inl (k : Int))] [] (mv_up M2.1 24 0 (71 + 8 * k + 0) v, M2.2) := by
          intro v hv
          refine go_X11_removeArticle [55] 60 ?_
          refine And.intro (by omega) ?_
          refine ih _ hlt ⟨hO2.up (by unfold rf_qs; omega), ?_⟩
          rw [hnx]
          refine hQ2.set (by simp; omega) ⟨mv_eqp.trans hv, (mv_nep (by omega)).trans hr.2.1, (mv_nep (by omega)).trans hr.2.2.1, (mv_nep (by omega)).trans hr.2.2.2.1, ?_⟩ (fun j hj => mv_nep (by omega))
          have hP := hr.2.2.2.2
          show rq_P _ _ q.2.2.2.2
          cases ho : q.2.2.2.2 with
          | none =>
            rw [ho] at hP
            exact (mv_nep (by omega)).trans hP
          | some p =>
            rw [ho] at hP
            exact ⟨(mv_nep (by omega)).trans hP.1, (mv_nep (by omega)).trans hP.2.1, (mv_nep (by omega)).trans hP.2.2.1, (mv_nep (by omega)).trans hP.2.2.2⟩
        have ed : (qg_dec n q).1 = if n < q.1 then q.1 - 1 else q.1 := rfl
        refine sp_X11_ofQuote (p := 0) rfl rfl (by omega) hr.1 ?_
        refine And.intro (fun c3 => ?_) (fun c3 => ?_)
        · refine sp_X11_ofQuote (p := 0) rfl rfl (by omega) hr.1 ?_
          refine sp_X11_setQuote (p := 0) rfl rfl (by omega) ?_
          exact fin _ (by rw [ed, if_neg (by omega)])
        · refine sp_X11_ofQuote (p := 0) rfl rfl (by omega) hr.1 ?_
          refine And.intro (by omega) ?_
          refine sp_X11_setQuote (p := 0) rfl rfl (by omega) ?_
          exact fin ((q.1 : Int) - 1) (by rw [ed, if_pos (by omega)]; omega)
    -- its own quotes
    have l1 : ∀ (j : Nat) (M2 : mv_M), j ≤ F.1.1.2.1.length → rr_of rf_qs M1 M2 → rq_Qs (M2.1 24 0) (F.1.1.2.1.take j ++ (F.1.1.2.1.drop j).filter (fun q => !(q.1 == n))) → ∀ x : Int, x = (j : Int) - 1 → J_X11_removeArticle Q 28 [some (.inr (11, 0)), some (.inl (n : Int)), some (.inl x)] [] M2 := by
      intro j
      induction j with
      | zero =>
        intro M2 hj hO2 hQ2 x hx
        refine go_X11_removeArticle [28, 55] 60 ?_
        refine And.intro (fun _ => ?_) (fun c => absurd c (by omega))
        refine l2 0 M2 (Nat.zero_le _) ⟨hO2, ?_⟩
        rw [List.take_zero, List.drop_zero, List.nil_append] at hQ2
        rw [hfs]
        exact hQ2
      | succ j ih =>
        intro M2 hj hO2 hQ2 x hx
        have hx : x = (j : Int) := by omega
        subst hx
        obtain ⟨q, hq⟩ := qg_some (show j < F.1.1.2.1.length by omega)
        have hlen : (F.1.1.2.1.take j).length = j := by simp; omega
        rw [qg_take hq, List.append_assoc] at hQ2
        have hQ2 : rq_Qs (M2.1 24 0) (F.1.1.2.1.take j ++ q :: (F.1.1.2.1.drop (j + 1)).filter (fun q => !(q.1 == n))) := hQ2
        have hat : (F.1.1.2.1.take j ++ q :: (F.1.1.2.1.drop (j + 1)).filter (fun q => !(q.1 == n)))[j]? = some q := by
          rw [List.getElem?_append_right (by omega), hlen, Nat.sub_self]; rfl
        have hr := hQ2.2 j q hat
        have hdr := qg_drop_cons hq
        refine go_X11_removeArticle [28, 55] 60 ?_
        refine And.intro (fun c => absurd c (by omega)) (fun _ => ?_)
        refine sp_X11_ofQuote (p := 0) rfl rfl (by omega) hr.1 ?_
        refine And.intro (fun c2 => ?_) (fun c2 => ?_)
        · refine And.intro (by omega) ?_
          refine ih M2 (by omega) hO2 ?_ _ (by omega)
          have hb : (!(q.1 == n)) = true := by
            have : q.1 ≠ n := by omega
            simpa using this
          rw [hdr, List.filter_cons, if_pos hb]
          exact hQ2
        · have hb : ¬ (!(q.1 == n)) = true := by
            have : q.1 = n := by omega
            simp [this]
          have hle : (F.1.1.2.1.take j ++ q :: (F.1.1.2.1.drop (j + 1)).filter (fun q => !(q.1 == n))).length ≤ 8 := by
            have := List.length_filter_le (fun q : qg_Q => !(q.1 == n)) (F.1.1.2.1.drop (j + 1))
            simp at this ⊢
            omega
          refine sp_X11_takeQuote rfl hQ2 (by simp; omega) hle (fun M3 hQ3 hO3 => ?_)
          refine And.intro (by omega) ?_
          refine ih M3 (by omega) (hO2.tr hO3) ?_ _ (by omega)
          have := qg_erase_mid (F.1.1.2.1.take j) q ((F.1.1.2.1.drop (j + 1)).filter (fun q => !(q.1 == n)))
          rw [hlen] at this
          rw [this] at hQ3
          rw [hdr, List.filter_cons, if_neg hb]
          exact hQ3
    have e1 : M1.1 24 0 (1 : Int).toNat = (F.1.1.2.1.length : Int) := hC1.n1
    refine And.intro (by omega) (And.intro (by omega) ?_)
    refine l1 F.1.1.2.1.length M1 (Nat.le_refl _) rr_of.rf ?_ _ (by omega)
    rw [List.take_length, List.drop_length]
    simpa using hC1.Qs
  · rw [if_neg c1] at h
    exact h M0 hZ0 hO0
