/-! The class's load. -/
theorem qr_C.off19 {M M' : mv_M} {c : Nat} {C : qg_C} (hc : c ≠ 19) (h : qr_C M c C) (hw : qg_wC C) (h0 : ∀ t j k, ¬ (t = 6 ∨ qf_C 19 t j) → M'.1 t j k = M.1 t j k) : qr_C M' c C :=
  h.fr hw (fun t j k hf => h0 t j k (by unfold qf_C at *; omega))
set_option maxRecDepth 100000 in
theorem sp_X6_read {tx : List Nat} {C : qg_C} {M : mv_M} {Q : mv_R} (hT : qr_Tx M tx) (h140 : tx.length ≤ 140) (h255 : ∀ s ∈ tx, s ≤ 255)
    (hC : qr_C M (3 * 0) C) (hw : qg_wC C) (hi : qg_inC C)
    (h : ∀ M', (∀ t j k, ¬ (t = 6 ∨ qf_C 19 t j) → M'.1 t j k = M.1 t j k) → M'.2 = M.2 → (match qp_items tx 140 0 C 0 with
      | .inl f => M'.1 6 0 3 = (f : Int)
      | .inr (k, D) => M'.1 6 0 3 = -1 ∧ M'.1 6 0 2 = (k : Int) ∧ qr_C M' 19 D) → Q none M') : E_X6_read [.inr (6, 0), .inr (1, 3 * 0)] M Q := by
  refine ev_X6_read ?_
  refine go_X6_read [25] 60 ?_
  refine sp_X1_copyFrom (by decide) hC hw (fun M1 hC1 hf1 => ?_)
  obtain ⟨r, hr⟩ : ∃ r, r = qp_items tx 140 0 C 0 := ⟨_, rfl⟩
  rw [← hr] at h
  have hl : ∀ (i : Nat) (q : mv_M × Nat × qg_C), i ≤ 140 → ((∀ t j k, ¬ (t = 6 ∨ qf_C 19 t j) → q.1.1 t j k = M.1 t j k) ∧ q.1.2 = M.2 ∧ q.1.1 6 0 3 = -1 ∧ q.1.1 6 0 4 = (q.2.1 : Int) ∧ q.1.1 6 0 2 = (i : Int) ∧ q.2.1 ≤ tx.length ∧ qr_C q.1 19 q.2.2 ∧ qg_wC q.2.2 ∧ qg_inC q.2.2 ∧ qp_items tx (140 - i) q.2.1 q.2.2 i = r) → ∀ (x : Int), x = (i : Int) →
      J_X6_read Q 25 [some (.inr (6, 0)), some (.inr (1, 3 * 0)), some (.inl x)] [] q.1 := by
    refine mv_loop 140 (fun i q hi2 ih hI x hx => ?_)
    obtain ⟨M2, p, D⟩ := q
    obtain ⟨hn, h2, e3, e4, e2, hp, hD, hwD, hiD, hR⟩ := hI
    dsimp only at hn h2 e3 e4 e2 hp hD hwD hiD hR ⊢
    have hT2 : qr_Tx M2 tx := ⟨(hn _ _ _ (by unfold qf_C; omega)).trans hT.1, fun k x hk => (hn _ _ _ (by unfold qf_C; omega)).trans (hT.2 k x hk)⟩
    refine go_X6_read [25] 60 ?_
    refine And.intro (fun c => ?_) (fun c => ?_)
    · have : 140 - i = 0 := by omega
      rw [this] at hR
      refine h M2 hn h2 ?_
      rw [← hR]
      exact ⟨e3, e2, hD⟩
    · rw [show 140 - i = (140 - (i + 1)) + 1 by omega, qp_items_succ] at hR
      refine sp_X6_hasFailed (fun c => absurd e3 c) (fun _ => mv_nf ?_)
      refine sp_X6_nextSign hT2 h140 e4 hp (fun M3 hp3 => ?_)
      have hs := qp_skip_ok tx hp
      have e33 := hp3.e3.trans e3
      have hn3 : ∀ t j k, ¬ (t = 6 ∨ qf_C 19 t j) → M3.1 t j k = M.1 t j k := fun t j k z => (hp3.of.1 t j k z).trans (hn t j k z)
      have e23 : M3.1 6 0 2 = (i : Int) := hp3.of.2.2.trans e2
      refine And.intro (fun c2 => ?_) (fun c2 => ?_)
      · rw [if_pos (by omega)] at hR
        refine h M3 hn3 (hp3.2.2.trans h2) ?_
        rw [← hR]
        exact ⟨e33, e23, hp3.c hD hwD⟩
      · rw [if_neg (by omega)] at hR
        refine sp_X6_readItem (hp3.tx hT2) h140 h255 e33 hp3.1 hs.2 (hp3.c hD hwD) hwD hiD (fun M4 hr4 => ?_)
        rw [qp_skip_skip] at hr4
        have hok := qp_item_ok hs.2 hwD hiD
        obtain ⟨ho4, hx4⟩ := hr4
        have hn4 : ∀ t j k, ¬ (t = 6 ∨ qf_C 19 t j) → M4.1 t j k = M.1 t j k := fun t j k z => (ho4.1 t j k z).trans (hn3 t j k z)
        have e24 : M4.1 6 0 2 = (i : Int) := ho4.2.2.trans e23
        refine And.intro (by omega) ?_
        refine And.intro (by omega) ?_
        have hnu : ∀ t j k, ¬ (t = 6 ∨ qf_C 19 t j) → (mv_up M4.1 6 0 2 (M4.1 6 0 2 + 1)) t j k = M.1 t j k := fun t j k z => (mv_up_ne (fun y => z (Or.inl y.1))).trans (hn4 t j k z)
        cases hq : qp_item tx (qp_skip tx p) D with
        | inl f =>
          rw [hq] at hR hx4
          dsimp only at hR hx4
          have hf : Q none (mv_up M4.1 6 0 2 (M4.1 6 0 2 + 1), M4.2) := by
            refine h _ hnu (ho4.2.1.trans (hp3.2.2.trans h2)) ?_
            rw [← hR]
            exact (mv_nep (by decide)).trans hx4
          refine go_X6_read [] 60 ?_
          refine And.intro (fun _ => hf) (fun _ => ?_)
          refine sp_X6_hasFailed (fun c => mv_nt hf) (fun c => absurd c ?_)
          rw [mv_nep (by decide)]
          omega
        | inr y =>
          obtain ⟨e, D'⟩ := y
          rw [hq] at hR hx4 hok
          dsimp only at hR hx4
          obtain ⟨k1, k2, k3, k4⟩ := hok
          refine ih ((mv_up M4.1 6 0 2 (M4.1 6 0 2 + 1), M4.2), e, D') (by omega) ⟨hnu, ho4.2.1.trans (hp3.2.2.trans h2), (mv_nep (by decide)).trans hx4.1, (mv_nep (by decide)).trans hx4.2.1, ?_, k2, hx4.2.2.off6 k3 (fun t j k hn => mv_nep (fun z => hn z.1)), k3, k4, hR⟩ _ (by omega)
          refine Eq.trans mv_eqp ?_
          omega
  refine hl 0 (((mv_up (mv_up (mv_up M1.1 6 0 2 0) 6 0 4 0) 6 0 3 (-1)), M1.2), 0, C) (by omega) ⟨fun t j k hn => ?_, hf1.2, mv_eqp, ?_, ?_, Nat.zero_le _, ?_, hw, hi, hr.symm⟩ _ rfl
  · refine (mv_nep (fun z => hn (Or.inl z.1))).trans ((mv_up_ne (fun z => hn (Or.inl z.1))).trans ((mv_up_ne (fun z => hn (Or.inl z.1))).trans (hf1.1 t j k (fun z => hn (Or.inr z)))))
  · exact (mv_nep (by decide)).trans mv_up_eq
  · exact (mv_nep (by decide)).trans ((mv_up_ne (by decide)).trans mv_up_eq)
  · exact hC1.off6 hw (fun t j k hn => (mv_nep (fun z => hn z.1)).trans ((mv_up_ne (fun z => hn z.1)).trans (mv_up_ne (fun z => hn z.1))))
theorem qf_ZR {t j : Nat} (h : qf_Z t j) : ¬ (t = 6 ∨ qf_C 19 t j) := by
  unfold qf_Z qf_S at h
  unfold qf_C
  rcases h with ⟨s, hs⟩ | h
  · omega
  · omega
set_option maxRecDepth 100000 in
theorem sp_X10_load {F : qg_F} {M : mv_M} {Q : mv_R} (hX : qr_X M F) (hw : qg_wF F) (h : ∀ M', qr_X M' (op_load F).2 → mv_of1 qf_X M M' → Q (some (.inl (op_load F).1)) M') : E_X10_load [.inr (10, 0)] M Q := by
  refine ev_X10_load ?_
  refine go_X10_load [] 60 ?_
  have hT := hX.1.2.2
  have h255 : ∀ s ∈ F.2.2, s ≤ 255 := fun s hs => (hw.2.2.2.2 s hs).2
  refine sp_X6_read hT hw.2.2.2.1 h255 hX.1.1.1 hw.1.1.1 hw.1.2.1 (fun M1 hn1 h21 hr => ?_)
  have hZ1 : qr_Z M1 F := hX.1.fr hw (fun t j k hf => hn1 t j k (qf_ZR hf)) h21
  have ho1 : mv_of1 qf_X M M1 := fun t j k hf => hn1 t j k (fun z => hf (by unfold qf_X; unfold qf_C at z; omega))
  unfold op_load at h
  cases hq : qp_items F.2.2 140 0 F.1.1 0 with
  | inl f =>
    rw [hq] at h hr
    dsimp only at h hr
    have hX1 : qr_X M1 F := by
      refine ⟨hZ1, ?_⟩
      rcases hX.2 with c | ⟨c, hL⟩
      · exact Or.inl ((hn1 _ _ _ (by unfold qf_C; omega)).trans c)
      · exact Or.inr ⟨(hn1 _ _ _ (by unfold qf_C; omega)).trans c, hL.fr hw.1.1.1.1 (fun t j k hf => hn1 t j k (by unfold qf_C; unfold qf_L at hf; omega))⟩
    refine sp_X6_hasFailed (fun c => mv_t ?_) (fun c => absurd c (by omega))
    refine And.intro (by sorry) ?_
    rw [hr]
    exact h M1 hX1 ho1
  | inr y =>
    obtain ⟨k, D⟩ := y
    rw [hq] at h hr
    dsimp only at h hr
    obtain ⟨e3, e2, hD⟩ := hr
    have hok := qp_items_ok 140 0 F.1.1 0 (Nat.zero_le _) hw.1.1.1 hw.1.2.1 k D hq
    refine sp_X6_hasFailed (fun c => absurd e3 c) (fun _ => mv_f ?_)
    sorry
