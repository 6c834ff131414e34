/-! The reference: snapshots, undo, text, floatAll. -/
set_option maxRecDepth 100000 in
theorem sp_X11_take {F : qg_F} {s : Int} {M : mv_M} {Q : mv_R} (hZ : rr_Z M F) (hw : qg_wF F) (h : ∀ M', rr_Z M' (op_take F s).2 → rr_of rf_X M M' → Q (some (.inl (op_take F s).1)) M') : E_X11_take [.inr (11, 0), .inl s] M Q := by
  refine ev_X11_take ?_
  refine go_X11_take [39] 60 ?_
  have hZ0 := hZ.R hw rr_th
  have hO0 := (rr_th (M := M)).wk (fun t k => rf_R_X)
  obtain ⟨M0, hM0⟩ : ∃ M0 : mv_M, M0 = (mv_up M.1 11 0 0 0, M.2) := ⟨_, rfl⟩
  rw [← hM0] at hZ0 hO0
  show E_X11_in [.inl s, .inl 0, .inl 1] (mv_up M.1 11 0 0 0, M.2) _
  rw [← hM0]
  have hwC := hw.1.1.1
  unfold op_take at h
  refine sp_X11_in (fun c1 => mv_nt ?_) (fun c1 => mv_nf ?_)
  · rw [if_pos c1] at h
    obtain ⟨n, rfl⟩ := Int.eq_ofNat_of_zero_le c1.1
    rw [show (n : Int).toNat = n by omega] at h
    refine sp_X11_act hZ0 hw (fun M1 hZ1 hO1 => ?_)
    have hS1 : rq_S (M1.1 24 0) F.1 := hZ1.1
    refine And.intro (by omega) (And.intro (by omega) (And.intro (by omega) ?_))
    have en : (135 + 136 * (n : Int)).toNat = 135 + 136 * n := by omega
    rw [en]
    have hl : ∀ (k : Nat) (M2 : mv_M), k ≤ 135 → (rr_of (fun t k => t = 24 ∧ 135 + 136 * n ≤ k ∧ k < 135 + 136 * n + 136) M1 M2 ∧ M2.1 24 0 (135 + 136 * n) = 1 ∧ ∀ j, j < k → M2.1 24 0 (135 + 136 * n + 1 + j) = M1.1 24 0 j) →
        J_X11_take Q 39 [some (.inr (11, 0)), some (.inl (n : Int)), some (.inl (135 + 136 * (n : Int))), some (.inl (k : Int))] [] M2 := by
      refine mv_loop 135 (fun k M2 hk ih hI => ?_)
      obtain ⟨hO2, g1, gn⟩ := hI
      refine go_X11_take [39] 60 ?_
      refine And.intro (fun c2 => ?_) (fun c2 => ?_)
      · have o24 : ∀ k, ¬ (135 + 136 * n ≤ k ∧ k < 135 + 136 * n + 136) → M2.1 24 0 k = M1.1 24 0 k := fun k hk => hO2.1 24 0 k (by omega)
        have oo : ∀ t k, t ≠ 24 → M2.1 t 0 k = M1.1 t 0 k := fun t k ht => hO2.1 t 0 k (by omega)
        have hC2 : rq_C (M2.1 24 0) F.1.1 := hS1.1.fr hwC (fun k hk => o24 k (by omega))
        refine sp_X11_placedMany hC2 hwC.2.1 ?_
        refine h M2 ⟨⟨hC2, fun k hk => ?_⟩, hZ1.2.1.fr (qg_wF_H (qg_wF_act hw)) (oo 11 4 (by decide)) (fun k => oo 26 k (by decide)), hZ1.2.2.fr (oo 11 6 (by decide)) (fun k => oo 27 k (by decide))⟩ ((hO0.tr (hO1.wk (fun t k => rf_act_X))).tr (hO2.wk (fun t k z => by unfold rf_X; omega)))
        have new : rq_O (M2.1 24 0) n (some F.1.1) := ⟨g1, hS1.1.fr hwC (fun j hj => gn j (by omega))⟩
        have old : k ≠ n → rq_O (M2.1 24 0) k (qg_sn F.1 k) := fun hkn => by
          have := hS1.2 k hk
          cases ho : qg_sn F.1 k with
          | none =>
            rw [ho] at this
            exact (o24 _ (by omega)).trans this
          | some C =>
            rw [ho] at this
            exact ⟨(o24 _ (by omega)).trans this.1, this.2.fr (hw.1.1.2 k C ho) (fun i hi => o24 _ (by omega))⟩
        rcases (show n = 0 ∨ n = 1 by omega) with e | e
        · subst e
          rcases (show k = 0 ∨ k = 1 by omega) with e2 | e2
          · subst e2; exact new
          · subst e2; exact old (by decide)
        · subst e
          rcases (show k = 0 ∨ k = 1 by omega) with e2 | e2
          · subst e2; exact old (by decide)
          · subst e2; exact new
      · refine And.intro (by omega) (And.intro (by omega) (And.intro (by omega) (And.intro (by omega) (And.intro (by omega) ?_))))
        have ek : (k : Int).toNat = k := by omega
        have enk : (135 + 136 * (n : Int) + 1 + (k : Int)).toNat = 135 + 136 * n + 1 + k := by omega
        rw [ek, enk]
        refine ih _ (by omega) ⟨hO2.up (by omega), (mv_nep (by omega)).trans g1, fun j hj => ?_⟩
        by_cases e : j = k
        · subst e
          exact mv_eqp.trans (hO2.1 24 0 j (by omega))
        · exact (mv_nep (by omega)).trans (gn j (by omega))
    exact hl 0 _ (by omega) ⟨rr_of.rf.up (by omega), mv_eqp, fun j hj => absurd hj (by omega)⟩
  · rw [if_neg c1] at h
    exact h M0 hZ0 hO0
set_option maxRecDepth 100000 in
theorem sp_X11_restore {F : qg_F} {s : Int} {M : mv_M} {Q : mv_R} (hZ : rr_Z M F) (hw : qg_wF F) (h : ∀ M', rr_Z M' (op_restore F s).2 → rr_of rf_X M M' → Q (some (.inl (op_restore F s).1)) M') : E_X11_restore [.inr (11, 0), .inl s] M Q := by
  refine ev_X11_restore ?_
  refine go_X11_restore [44] 60 ?_
  have hZ0 := hZ.R hw rr_th
  have hO0 := (rr_th (M := M)).wk (fun t k => rf_R_X)
  obtain ⟨M0, hM0⟩ : ∃ M0 : mv_M, M0 = (mv_up M.1 11 0 0 0, M.2) := ⟨_, rfl⟩
  rw [← hM0] at hZ0 hO0
  show E_X11_in [.inl s, .inl 0, .inl 1] (mv_up M.1 11 0 0 0, M.2) _
  rw [← hM0]
  have hwC := hw.1.1.1
  unfold op_restore at h
  refine sp_X11_in (fun c1 => mv_nt ?_) (fun c1 => mv_nf ?_)
  · rw [if_pos c1] at h
    obtain ⟨n, rfl⟩ := Int.eq_ofNat_of_zero_le c1.1
    rw [show (n : Int).toNat = n by omega] at h
    refine And.intro (by omega) (And.intro (by omega) (And.intro (by omega) ?_))
    have en : (135 + 136 * (n : Int)).toNat = 135 + 136 * n := by omega
    rw [en]
    have hO := hZ0.1.2 n (by omega)
    cases ho : qg_sn F.1 n with
    | none =>
      rw [ho] at h hO
      exact And.intro (fun c => absurd hO c) (fun _ => h M0 hZ0 hO0)
    | some C =>
      rw [ho] at h hO
      have g1 : M0.1 24 0 (135 + 136 * n) = 1 := hO.1
      refine And.intro (fun _ => ?_) (fun c => absurd c (by omega))
      refine sp_X11_act hZ0 hw (fun M1 hZ1 hO1 => ?_)
      have hwD := hw.1.1.2 n C ho
      have hC1 : rq_C (fun i => M1.1 24 0 (135 + 136 * n + 1 + i)) C := hO.2.fr hwD (fun i hi => hO1.1 24 0 _ (by unfold rf_act; omega))
      have hl : ∀ (k : Nat) (M2 : mv_M), k ≤ 135 → (rr_of rf_con M1 M2 ∧ ∀ j, j < k → M2.1 24 0 j = M1.1 24 0 (135 + 136 * n + 1 + j)) →
          J_X11_restore Q 44 [some (.inr (11, 0)), some (.inl (n : Int)), some (.inl (135 + 136 * (n : Int))), some (.inl (k : Int))] [] M2 := by
        refine mv_loop 135 (fun k M2 hk ih hI => ?_)
        obtain ⟨hO2, gn⟩ := hI
        refine go_X11_restore [44] 60 ?_
        refine And.intro (fun c2 => ?_) (fun c2 => ?_)
        · have hC2 : rq_C (M2.1 24 0) C := hC1.fr hwD (fun k hk => gn k (by omega))
          refine sp_X11_placedMany hC2 hwD.2.1 ?_
          exact h M2 (hZ1.wc (qg_wF_act hw) hC2 (hO2.wk (fun t k => rf_con_RC))) ((hO0.tr (hO1.wk (fun t k => rf_act_X))).tr (hO2.wk (fun t k z => rf_RC_X (rf_con_RC z))))
        · refine And.intro (by omega) (And.intro (by omega) (And.intro (by omega) (And.intro (by omega) (And.intro (by omega) ?_))))
          have ek : (k : Int).toNat = k := by omega
          have enk : (135 + 136 * (n : Int) + 1 + (k : Int)).toNat = 135 + 136 * n + 1 + k := by omega
          rw [ek, enk]
          refine ih _ (by omega) ⟨hO2.up (by unfold rf_con; omega), fun j hj => ?_⟩
          by_cases e : j = k
          · subst e
            exact mv_eqp.trans (hO2.1 24 0 _ (by unfold rf_con; omega))
          · exact (mv_nep (by omega)).trans (gn j (by omega))
      exact hl 0 M1 (by omega) ⟨rr_of.rf, fun j hj => absurd hj (by omega)⟩
  · rw [if_neg c1] at h
    exact h M0 hZ0 hO0
set_option maxRecDepth 100000 in
theorem sp_X11_undo {F : qg_F} {M : mv_M} {Q : mv_R} (hZ : rr_Z M F) (hw : qg_wF F) (h : ∀ M', rr_Z M' (op_undo F).2 → rr_of rf_X M M' → Q (some (.inl (op_undo F).1)) M') : E_X11_undo [.inr (11, 0)] M Q := by
  refine ev_X11_undo ?_
  refine go_X11_undo [27] 60 ?_
  have hZ0 := hZ.R hw rr_th
  have hO0 := (rr_th (M := M)).wk (fun t k => rf_R_X)
  have e4 := hZ0.2.1.1
  unfold op_undo at h
  rcases qg_last F.2.1 with e | ⟨L, b, e⟩
  · rw [e] at h e4
    refine And.intro (fun c1 => absurd e4 c1) (fun _ => ?_)
    exact h _ hZ0 hO0
  · have hH := hZ0.2.1.2
    have h1 := hw.2.1
    have h5 := hw.2.2.1
    rw [e] at h e4 hH h1 h5
    simp only [List.getLast?_append, List.getLast?_singleton, Option.some_or, List.dropLast_concat] at h
    rw [List.length_append, List.length_singleton] at e4 h5
    have hb := hH L.length b (by rw [List.getElem?_append_right (by omega), Nat.sub_self]; rfl)
    refine And.intro (fun _ => ?_) (fun c1 => absurd c1 (by omega))
    refine And.intro (by omega) ?_
    obtain ⟨M1, hM1⟩ : ∃ M1 : mv_M, M1 = (mv_up M.1 11 0 0 0, M.2) := ⟨_, rfl⟩
    rw [← hM1] at e4 hb hH hZ0 hO0
    show J_X11_undo Q 27 [some (.inr (11, 0)), some (.inl 0)] [] (mv_up (mv_up M.1 11 0 0 0, M.2).1 11 0 4 ((mv_up M.1 11 0 0 0, M.2).1 11 0 4 - 1), (mv_up M.1 11 0 0 0, M.2).2)
    rw [← hM1]
    have hl : ∀ (k : Nat) (M2 : mv_M), k ≤ 407 → (rr_of (fun t k => t = 24 ∨ (t = 11 ∧ k = 4)) M1 M2 ∧ M2.1 11 0 4 = (L.length : Int) ∧ ∀ j, j < k → M2.1 24 0 j = M1.1 26 0 (407 * L.length + j)) →
        J_X11_undo Q 27 [some (.inr (11, 0)), some (.inl (k : Int))] [] M2 := by
      refine mv_loop 407 (fun k M2 hk ih hI => ?_)
      obtain ⟨hO2, g4, gn⟩ := hI
      refine go_X11_undo [27] 60 ?_
      refine And.intro (fun c2 => ?_) (fun c2 => ?_)
      · have oo : ∀ t k, t ≠ 24 → ¬ (t = 11 ∧ k = 4) → M2.1 t 0 k = M1.1 t 0 k := fun t k ht h4 => hO2.1 t 0 k (by omega)
        have hh := h M2 ⟨hb.fr (h1 b (by simp)).1 (fun k hk => gn k (by omega)), ⟨g4, fun i S hi => ?_⟩, hZ0.2.2.fr (oo _ _ (by decide) (by decide)) (fun k => oo _ _ (by decide) (by omega))⟩ (hO0.tr (hO2.wk (fun t k z => by unfold rf_X; omega)))
        · rw [← g4] at hh
          exact hh
        · have hlt := (List.getElem?_eq_some_iff.mp hi).1
          exact (hH i S (by rw [List.getElem?_append_left hlt]; exact hi)).fr (h1 S (List.mem_append_left _ (List.mem_of_getElem? hi))).1 (fun k _ => oo _ _ (by decide) (by omega))
      · refine And.intro (by omega) (And.intro (by omega) (And.intro (by omega) (And.intro (by omega) (And.intro (by omega) ?_))))
        have ek : (k : Int).toNat = k := by omega
        have enk : (407 * M2.1 11 0 4 + (k : Int)).toNat = 407 * L.length + k := by omega
        rw [ek, enk]
        refine ih _ (by omega) ⟨hO2.up (by omega), (mv_nep (by omega)).trans g4, fun j hj => ?_⟩
        by_cases ej : j = k
        · subst ej
          exact mv_eqp.trans (hO2.1 26 0 _ (by omega))
        · exact (mv_nep (by omega)).trans (gn j (by omega))
    exact hl 0 _ (by omega) ⟨rr_of.rf.up (by omega), mv_eqp.trans (by omega), fun j hj => absurd hj (by omega)⟩
set_option maxRecDepth 100000 in
theorem sp_X11_append {F : qg_F} {c : Int} {M : mv_M} {Q : mv_R} (hZ : rr_Z M F) (hw : qg_wF F) (h : ∀ M', rr_Z M' (op_append F c).2 → rr_of rf_X M M' → Q (some (.inl (op_append F c).1)) M') : E_X11_append [.inr (11, 0), .inl c] M Q := by
  refine ev_X11_append ?_
  refine go_X11_append [] 60 ?_
  have hZ0 := hZ.R hw rr_th
  have hO0 := (rr_th (M := M)).wk (fun t k => rf_R_X)
  obtain ⟨M0, hM0⟩ : ∃ M0 : mv_M, M0 = (mv_up M.1 11 0 0 0, M.2) := ⟨_, rfl⟩
  rw [← hM0] at hZ0 hO0
  show E_X11_in [.inl c, .inl 1, .inl 255] (mv_up M.1 11 0 0 0, M.2) _
  rw [← hM0]
  unfold op_append at h
  have e6 := hZ0.2.2.1
  have h140 := hw.2.2.2.1
  refine sp_X11_in (fun c1 => mv_nt ?_) (fun c1 => mv_nf ?_)
  · rw [if_pos c1] at h
    refine And.intro (fun c2 => ?_) (fun c2 => ?_)
    · have hlt : F.2.2.length < 140 := by omega
      rw [if_pos hlt] at h
      refine And.intro (by omega) ?_
      have en : (M0.1 11 0 6).toNat = F.2.2.length := by omega
      rw [en]
      obtain ⟨M1, hM1⟩ : ∃ M1 : mv_M, M1 = (mv_up M0.1 27 0 F.2.2.length c, M0.2) := ⟨_, rfl⟩
      have g6 : M1.1 11 0 6 = (F.2.2.length : Int) := by rw [hM1]; exact (mv_nep (by omega)).trans e6
      have hO1 : rr_of rf_X M0 M1 := by rw [hM1]; exact rr_of.rf.up (by unfold rf_X; omega)
      have key : (-2147483648 ≤ M1.1 11 0 6 + 1 ∧ M1.1 11 0 6 + 1 ≤ 2147483647) ∧ Q (some (.inl (((mv_up M1.1 11 0 6 (M1.1 11 0 6 + 1), M1.2) : mv_M).1 11 0 6))) (mv_up M1.1 11 0 6 (M1.1 11 0 6 + 1), M1.2) := by
        refine ⟨by omega, ?_⟩
        have o : ∀ t k, t ≠ 27 → ¬ (t = 11 ∧ k = 6) → ((mv_up M1.1 11 0 6 (M1.1 11 0 6 + 1), M1.2) : mv_M).1 t 0 k = M0.1 t 0 k := fun t k ht h6 => by
          refine (mv_nep (by omega)).trans ?_
          rw [hM1]
          exact mv_nep (by omega)
        have hh := h (mv_up M1.1 11 0 6 (M1.1 11 0 6 + 1), M1.2) ⟨hZ0.1.fr hw.1.1 (fun k _ => o 24 k (by decide) (by omega)), hZ0.2.1.fr (qg_wF_H hw) (o 11 4 (by decide) (by decide)) (fun k => o 26 k (by decide) (by omega)), ?_, fun k s hk => ?_⟩ ((hO0.tr hO1).up (by unfold rf_X; omega))
        · have eo : ((mv_up M1.1 11 0 6 (M1.1 11 0 6 + 1), M1.2) : mv_M).1 11 0 6 = (F.2.2.length : Int) + 1 := mv_eqp.trans (by rw [g6])
          rw [← eo] at hh
          exact hh
        · refine mv_eqp.trans ?_
          show _ = (((F.2.2 ++ [c.toNat]).length : Nat) : Int)
          simp
          omega
        · have hk : (F.2.2 ++ [c.toNat])[k]? = some s := hk
          by_cases hkl : k < F.2.2.length
          · rw [List.getElem?_append_left hkl] at hk
            refine (mv_nep (by omega)).trans ?_
            rw [hM1]
            exact (mv_nep (by omega)).trans (hZ0.2.2.2 k s hk)
          · have := (List.getElem?_eq_some_iff.mp hk).1
            simp at this
            have e : k = F.2.2.length := by omega
            subst e
            rw [List.getElem?_append_right (by omega)] at hk
            simp at hk
            subst hk
            refine (mv_nep (by omega)).trans ?_
            rw [hM1]
            exact mv_eqp.trans (by omega)
      rw [hM1] at key
      exact key
    · rw [if_neg (by omega)] at h
      exact h M0 hZ0 hO0
  · rw [if_neg c1] at h
    exact h M0 hZ0 hO0
set_option maxRecDepth 100000 in
theorem sp_X11_clearText {F : qg_F} {M : mv_M} {Q : mv_R} (hZ : rr_Z M F) (hw : qg_wF F) (h : ∀ M', rr_Z M' (op_clearText F).2 → rr_of rf_X M M' → Q (some (.inl (op_clearText F).1)) M') : E_X11_clearText [.inr (11, 0)] M Q := by
  refine ev_X11_clearText ?_
  refine go_X11_clearText [] 60 ?_
  have hZ0 := hZ.R hw rr_th
  have hO0 := (rr_th (M := M)).wk (fun t k => rf_R_X)
  have e6 := hZ0.2.2.1
  have o : ∀ t k, ¬ (t = 11 ∧ k = 6) → ((mv_up (mv_up M.1 11 0 0 0, M.2).1 11 0 6 0, (mv_up M.1 11 0 0 0, M.2).2) : mv_M).1 t 0 k = (mv_up M.1 11 0 0 0, M.2).1 t 0 k := fun t k hk => mv_nep (by omega)
  have hh := h (mv_up (mv_up M.1 11 0 0 0, M.2).1 11 0 6 0, (mv_up M.1 11 0 0 0, M.2).2) ⟨hZ0.1.fr hw.1.1 (fun k _ => o 24 k (by omega)), hZ0.2.1.fr (qg_wF_H hw) (o 11 4 (by decide)) (fun k => o 26 k (by omega)), mv_eqp, fun k s hk => by simp [op_clearText] at hk⟩ (hO0.up (by unfold rf_X; omega))
  unfold op_clearText at hh
  rw [← e6] at hh
  exact hh
set_option maxRecDepth 100000 in
theorem sp_X11_floatAll {F : qg_F} {M : mv_M} {Q : mv_R} (hZ : rr_Z M F) (hw : qg_wF F) (h : ∀ M', rr_Z M' (op_floatAll F).2 → rr_of rf_X M M' → Q (some (.inl (op_floatAll F).1)) M') : E_X11_floatAll [.inr (11, 0)] M Q := by
  refine ev_X11_floatAll ?_
  refine go_X11_floatAll [13] 60 ?_
  have hZ0 := hZ.R hw rr_th
  have hO0 := (rr_th (M := M)).wk (fun t k => rf_R_X)
  have hwC := hw.1.1.1
  have h8 := hwC.2.1
  have hwa := qg_wF_act hw
  refine sp_X11_act hZ0 hw (fun M1 hZ1 hO1 => ?_)
  have hl : ∀ (k : Nat) (M2 : mv_M), k ≤ F.1.1.2.1.length → (rr_Z M2 (qg_wc (qg_act F) (qg_flF F.1.1 k).1) ∧ rr_of rf_X M M2) → ∀ (o : Option mv_V) (w : Int), w = ((qg_flF F.1.1 k).2 : Int) →
      J_X11_floatAll Q 13 [some (.inr (11, 0)), some (.inl w), some (.inl (k : Int)), o] [] M2 := by
    refine mv_loop F.1.1.2.1.length (fun k M2 hk ih hI o w hw' => ?_)
    subst hw'
    obtain ⟨hZ2, hO2⟩ := hI
    obtain ⟨g1, g2, g3, g4⟩ := qg_flF_ok hwC hw.1.2.1 k
    have hwF2 : qg_wF (qg_wc (qg_act F) (qg_flF F.1.1 k).1) := qg_wF_wc hwa g1 g2
    have hC2 : rq_C (M2.1 24 0) (qg_flF F.1.1 k).1 := hZ2.1.1
    have e1 := hC2.n1
    refine go_X11_floatAll [13, 71] 60 ?_
    refine And.intro (by omega) ?_
    refine And.intro (fun c1 => ?_) (fun c1 => ?_)
    · have : k = F.1.1.2.1.length := by omega
      subst this
      exact h M2 hZ2 hO2
    · have hlt : k < F.1.1.2.1.length := by omega
      obtain ⟨q, hq⟩ := qg_some (show k < (qg_flF F.1.1 k).1.2.1.length by omega)
      have hs := qg_flF_succ F.1.1 k
      rw [hq] at hs
      dsimp only at hs
      have next : ∀ (M3 : mv_M) (w : Int) (o : Option mv_V), w = ((qg_flF F.1.1 (k + 1)).2 : Int) → rr_Z M3 (qg_wc (qg_act F) (qg_flF F.1.1 (k + 1)).1) → rr_of rf_X M M3 →
          J_X11_floatAll Q 71 [some (.inr (11, 0)), some (.inl w), some (.inl (k : Int)), o] [] M3 := by
        intro M3 w o hw' hZ3 hO3
        refine go_X11_floatAll [13] 60 ?_
        refine And.intro (by omega) ?_
        exact ih M3 hlt ⟨hZ3, hO3⟩ _ _ hw'
      refine sp_X11_isPlaced rfl (by omega) (hC2.2.2.2.1 k q hq) (fun p hp => mv_t ?_) (fun ho => mv_f ?_)
      · rw [hp] at hs
        refine And.intro (fun _ => next M2 _ _ (by rw [hs]) (by rw [hs]; exact hZ2) hO2) (fun c => absurd rfl c)
      · rw [ho] at hs
        dsimp only at hs
        refine sp_X11_best rfl hC2 g1 g2 hq (fun M3 hC3 _ hO3 => ?_)
        have hZ3 : rr_Z M3 (qg_wc (qg_act F) (qg_flF F.1.1 k).1) := hZ2.wc hwF2 hC3 (hO3.wk (fun t k => rf_try_RC (by omega)))
        have hO3' := hO2.tr (hO3.wk (fun t k z => rf_RC_X (rf_try_RC (by omega) z)))
        refine And.intro (fun c3 => ?_) (fun c3 => ?_)
        · rw [if_pos c3] at hs
          exact next M3 _ _ (by rw [hs]) (by rw [hs]; exact hZ3) hO3'
        · rw [if_neg c3] at hs
          rcases qg_best_ok (qg_flF F.1.1 k).1 k with z | ⟨m, z1, z2, z3⟩
          · rw [z] at c3; exact absurd rfl c3
          · have e0 : (qg_best (qg_flF F.1.1 k).1 k).1 = (m : Int) := by rw [z2]
            have e : (qg_best (qg_flF F.1.1 k).1 k).1.toNat = m := by rw [e0]; exact Int.toNat_natCast m
            rw [e] at hs
            rw [e0]
            have i1 : (m : Int) / 120 = ((qg_at m).1 : Int) := by show _ = ((m / 120 : Nat) : Int); omega
            have i2 : (m : Int) % 120 / 20 = ((qg_at m).2.1 : Int) := by show _ = ((m % 120 / 20 : Nat) : Int); omega
            have i3 : (m : Int) % 20 = ((qg_at m).2.2 : Int) := by show _ = ((m % 20 : Nat) : Int); omega
            refine And.intro (by omega) (And.intro (by omega) (And.intro (by omega) (And.intro (by omega) ?_)))
            refine sp_X11_put rfl i1 i2 i3 (by omega) (fun M4 hP4 hO4 => ?_)
            have hC4 := hC3.put g1 hq hP4 (fun k hk => hO4.1 24 0 k (by unfold rf_put; omega))
            have hZ4 := hZ3.wc hwF2 hC4 (hO4.wk (fun t k => rf_put_RC (by omega)))
            rw [qg_wc_wc] at hZ4
            refine And.intro (by omega) ?_
            refine next M4 _ _ (by rw [hs]; rfl) (by rw [hs]; exact hZ4) (hO3'.tr (hO4.wk (fun t k z => rf_RC_X (rf_put_RC (by omega) z))))
  exact hl 0 M1 (Nat.zero_le _) ⟨hZ1, hO0.tr (hO1.wk (fun t k => rf_act_X))⟩ none _ rfl
