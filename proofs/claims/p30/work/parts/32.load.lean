/-! The class's load. -/
theorem qr_C.off19 {M M' : mv_M} {c : Nat} {C : qg_C} (hc : c ≠ 19) (h : qr_C M c C) (hw : qg_wC C) (h0 : ∀ t j k, ¬ (t = 6 ∨ qf_C 19 t j) → M'.1 t j k = M.1 t j k) : qr_C M' c C :=
  h.fr hw (fun t j k hf => h0 t j k (by unfold qf_C at *; omega))
set_option maxRecDepth 100000 in
theorem sp_X6_read {tx : List Nat} {C : qg_C} {M : mv_M} {Q : mv_R} (hT : qr_Tx M tx) (h140 : tx.length ≤ 140) (h255 : ∀ s ∈ tx, s ≤ 255)
    (hC : qr_C M (3 * 0) C) (hw : qg_wC C) (hi : qg_inC C)
    (h : ∀ M', (∀ t j k, ¬ (t = 6 ∨ qf_C 19 t j) → M'.1 t j k = M.1 t j k) → M'.2 = M.2 → (match qp_items tx 140 0 C 0 with
      | .inl f => M'.1 6 0 3 = (f : Int)
      | .inr (k, D) => M'.1 6 0 3 = -1 ∧ M'.1 6 0 2 = (k : Int) ∧ qr_C M' 19 D) → Q none M') : E_X6_read [.inr (6, 0), .inr (1, 3 * 0)] M Q := by
  refine ev_X6_read ?_
  refine go_X6_read [25] 60 ?_
  refine sp_X1_copyFrom (by decide) hC hw (fun M1 hC1 hf1 => ?_)
  obtain ⟨r, hr⟩ : ∃ r, r = qp_items tx 140 0 C 0 := ⟨_, rfl⟩
  rw [← hr] at h
  have hl : ∀ (i : Nat) (q : mv_M × Nat × qg_C), i ≤ 140 → ((∀ t j k, ¬ (t = 6 ∨ qf_C 19 t j) → q.1.1 t j k = M.1 t j k) ∧ q.1.2 = M.2 ∧ q.1.1 6 0 3 = -1 ∧ q.1.1 6 0 4 = (q.2.1 : Int) ∧ q.1.1 6 0 2 = (i : Int) ∧ q.2.1 ≤ tx.length ∧ qr_C q.1 19 q.2.2 ∧ qg_wC q.2.2 ∧ qg_inC q.2.2 ∧ qp_items tx (140 - i) q.2.1 q.2.2 i = r) → ∀ (x : Int), x = (i : Int) →
      J_X6_read Q 25 [some (.inr (6, 0)), some (.inr (1, 3 * 0)), some (.inl x)] [] q.1 := by
    refine mv_loop 140 (fun i q hi2 ih hI x hx => ?_)
    obtain ⟨M2, p, D⟩ := q
    obtain ⟨hn, h2, e3, e4, e2, hp, hD, hwD, hiD, hR⟩ := hI
    dsimp only at hn h2 e3 e4 e2 hp hD hwD hiD hR ⊢
    have hT2 : qr_Tx M2 tx := ⟨(hn _ _ _ (by unfold qf_C; omega)).trans hT.1, fun k x hk => (hn _ _ _ (by unfold qf_C; omega)).trans (hT.2 k x hk)⟩
    refine go_X6_read [25] 60 ?_
    refine And.intro (fun c => ?_) (fun c => ?_)
    · have : 140 - i = 0 := by omega
      rw [this] at hR
      refine h M2 hn h2 ?_
      rw [← hR]
      exact ⟨e3, e2, hD⟩
    · rw [show 140 - i = (140 - (i + 1)) + 1 by omega, qp_items_succ] at hR
      refine sp_X6_hasFailed (fun c => absurd e3 c) (fun _ => mv_nf ?_)
      refine sp_X6_nextSign hT2 h140 e4 hp (fun M3 hp3 => ?_)
      have hs := qp_skip_ok tx hp
      have e33 := hp3.e3.trans e3
      have hn3 : ∀ t j k, ¬ (t = 6 ∨ qf_C 19 t j) → M3.1 t j k = M.1 t j k := fun t j k z => (hp3.of.1 t j k z).trans (hn t j k z)
      have e23 : M3.1 6 0 2 = (i : Int) := hp3.of.2.2.trans e2
      refine And.intro (fun c2 => ?_) (fun c2 => ?_)
      · rw [if_pos (by omega)] at hR
        refine h M3 hn3 (hp3.2.2.trans h2) ?_
        rw [← hR]
        exact ⟨e33, e23, hp3.c hD hwD⟩
      · rw [if_neg (by omega)] at hR
        refine sp_X6_readItem (hp3.tx hT2) h140 h255 e33 hp3.1 hs.2 (hp3.c hD hwD) hwD hiD (fun M4 hr4 => ?_)
        rw [qp_skip_skip] at hr4
        have hok := qp_item_ok hs.2 hwD hiD
        obtain ⟨ho4, hx4⟩ := hr4
        have hn4 : ∀ t j k, ¬ (t = 6 ∨ qf_C 19 t j) → M4.1 t j k = M.1 t j k := fun t j k z => (ho4.1 t j k z).trans (hn3 t j k z)
        have e24 : M4.1 6 0 2 = (i : Int) := ho4.2.2.trans e23
        refine And.intro (by omega) ?_
        refine And.intro (by omega) ?_
        have hnu : ∀ t j k, ¬ (t = 6 ∨ qf_C 19 t j) → (mv_up M4.1 6 0 2 (M4.1 6 0 2 + 1)) t j k = M.1 t j k := fun t j k z => (mv_up_ne (fun y => z (Or.inl y.1))).trans (hn4 t j k z)
        cases hq : qp_item tx (qp_skip tx p) D with
        | inl f =>
          rw [hq] at hR hx4
          dsimp only at hR hx4
          have hf : Q none (mv_up M4.1 6 0 2 (M4.1 6 0 2 + 1), M4.2) := by
            refine h _ hnu (ho4.2.1.trans (hp3.2.2.trans h2)) ?_
            rw [← hR]
            exact (mv_nep (by decide)).trans hx4
          refine go_X6_read [] 60 ?_
          refine And.intro (fun _ => hf) (fun _ => ?_)
          refine sp_X6_hasFailed (fun c => mv_nt hf) (fun c => absurd c ?_)
          rw [mv_nep (by decide)]
          omega
        | inr y =>
          obtain ⟨e, D'⟩ := y
          rw [hq] at hR hx4 hok
          dsimp only at hR hx4
          obtain ⟨k1, k2, k3, k4⟩ := hok
          refine ih ((mv_up M4.1 6 0 2 (M4.1 6 0 2 + 1), M4.2), e, D') (by omega) ⟨hnu, ho4.2.1.trans (hp3.2.2.trans h2), (mv_nep (by decide)).trans hx4.1, (mv_nep (by decide)).trans hx4.2.1, ?_, k2, hx4.2.2.off6 k3 (fun t j k hn => mv_nep (fun z => hn z.1)), k3, k4, hR⟩ _ (by omega)
          refine Eq.trans mv_eqp ?_
          omega
  refine hl 0 (((mv_up (mv_up (mv_up M1.1 6 0 2 0) 6 0 4 0) 6 0 3 (-1)), M1.2), 0, C) (by omega) ⟨fun t j k hn => ?_, hf1.2, mv_eqp, ?_, ?_, Nat.zero_le _, ?_, hw, hi, hr.symm⟩ _ rfl
  · refine (mv_nep (fun z => hn (Or.inl z.1))).trans ((mv_up_ne (fun z => hn (Or.inl z.1))).trans ((mv_up_ne (fun z => hn (Or.inl z.1))).trans (hf1.1 t j k (fun z => hn (Or.inr z)))))
  · exact (mv_nep (by decide)).trans mv_up_eq
  · exact (mv_nep (by decide)).trans ((mv_up_ne (by decide)).trans mv_up_eq)
  · exact hC1.off6 hw (fun t j k hn => (mv_nep (fun z => hn z.1)).trans ((mv_up_ne (fun z => hn z.1)).trans (mv_up_ne (fun z => hn z.1))))
theorem qf_ZR {t j : Nat} (h : qf_Z t j) : ¬ (t = 6 ∨ qf_C 19 t j) := by
  unfold qf_Z qf_S at h
  unfold qf_C
  rcases h with ⟨s, hs⟩ | h
  · omega
  · omega
theorem qp_items_bound {tx : List Nat} : ∀ n p C k, p ≤ tx.length → qg_wC C → qg_inC C → ∀ f, qp_items tx n p C k = .inl f → f ≤ tx.length
  | 0, p, C, k, hp, hw, hi, f, h => by cases h
  | n + 1, p, C, k, hp, hw, hi, f, h => by
    rw [qp_items_succ] at h
    by_cases h0 : qp_at tx (qp_skip tx p) = 0
    · rw [if_pos h0] at h; cases h
    · rw [if_neg h0] at h
      have hok := qp_item_ok (qp_skip_ok tx hp).2 hw hi
      cases hr : qp_item tx (qp_skip tx p) C with
      | inl g =>
        rw [hr] at h hok
        injection h with h
        rw [← h]
        exact hok
      | inr x =>
        obtain ⟨e, D⟩ := x
        rw [hr] at h hok
        exact qp_items_bound n e D (k + 1) hok.2.1 hok.2.2.1 hok.2.2.2 f h
set_option maxRecDepth 100000 in
theorem qs_beginAction {F : qg_F} {M : mv_M} {Q : mv_R} (hZ : qr_Z M F) (hw : qg_wF F) (h : ∀ M', qr_Z M' (qg_act F) → M'.1 10 0 6 = 1 → mv_of1 (fun t j => t = 10 ∨ qf_H t j) M M' → Q none M') : E_X10_beginAction [.inr (10, 0)] M Q := by
  refine ev_X10_beginAction ?_
  refine go_X10_beginAction [] 60 ?_
  obtain ⟨hS, hH, hT⟩ := hZ
  refine sp_X3_keep hH (fun T hT => (hw.2.1 T hT).1) hS hw.1.1 (fun M1 hH1 hO1 => ?_)
  have n0 : ∀ t j k, qf_S 0 t j → M1.1 t j k = M.1 t j k := fun t j k hf => hO1 t j k (by
    rintro (z | ⟨s, z1, z2, z3⟩)
    · unfold qf_S at hf; omega
    · exact qf_S_ne (by omega) z3 hf)
  have fr : ∀ {s T}, qg_wS T → qr_S M1 s T → qr_S (mv_up M1.1 10 0 6 1, M1.2) s T := fun hw hh => hh.fr hw (fun t j k hf => mv_up_ne (fun z => by unfold qf_S at hf; omega))
  have n8 : ∀ t j k, (t = 8 ∨ t = 19) → M1.1 t j k = M.1 t j k := fun t j k hf => hO1 t j k (by
    rintro (z | ⟨s, z1, z2, z3⟩)
    · omega
    · unfold qf_S at z3; omega)
  refine And.intro (Or.inr rfl) (h _ ⟨fr hw.1.1 (hS.fr hw.1.1 n0), ?_, ?_⟩ ?_ ?_)
  · obtain ⟨e1, e5, er, ei, eL⟩ := hH1
    refine ⟨?_, e5, er, ei, fun i T hi => fr ?_ (eL i T hi)⟩
    · exact (mv_up_ne (t := 10) (j := 0) (k := 6) (x := 1) (fun z => absurd z.1 (by decide))).trans e1
    · rcases List.mem_append.mp (List.mem_of_getElem? hi) with z | z
      · split at z
        · exact (hw.2.1 T (List.mem_of_mem_tail z)).1
        · exact (hw.2.1 T z).1
      · rw [List.mem_singleton.mp z]; exact hw.1.1
  · refine ⟨?_, fun k s hk => ?_⟩
    · exact (mv_up_ne (t := 10) (j := 0) (k := 6) (x := 1) (fun z => absurd z.1 (by decide))).trans ((n8 8 0 1 (Or.inl rfl)).trans hT.1)
    · exact (mv_up_ne (t := 10) (j := 0) (k := 6) (x := 1) (fun z => absurd z.1 (by decide))).trans ((n8 19 0 k (Or.inr rfl)).trans (hT.2 k s hk))
  · simp [mv_up]
  · intro t j k hf
    exact (mv_up_ne (fun z => hf (Or.inl z.1))).trans (hO1 t j k (fun z => hf (Or.inr z)))
set_option maxRecDepth 100000 in
theorem sp_X10_load {F : qg_F} {M : mv_M} {Q : mv_R} (hX : qr_X M F) (hw : qg_wF F) (h : ∀ M', qr_X M' (op_load F).2 → mv_of1 qf_X M M' → Q (some (.inl (op_load F).1)) M') : E_X10_load [.inr (10, 0)] M Q := by
  refine ev_X10_load ?_
  refine go_X10_load [] 60 ?_
  have hT := hX.1.2.2
  have h255 : ∀ s ∈ F.2.2, s ≤ 255 := fun s hs => (hw.2.2.2.2 s hs).2
  refine sp_X6_read hT hw.2.2.2.1 h255 hX.1.1.1 hw.1.1.1 hw.1.2.1 (fun M1 hn1 h21 hr => ?_)
  have hZ1 : qr_Z M1 F := hX.1.fr hw (fun t j k hf => hn1 t j k (qf_ZR hf)) h21
  have ho1 : mv_of1 qf_X M M1 := fun t j k hf => hn1 t j k (fun z => hf (by unfold qf_X; unfold qf_C at z; omega))
  unfold op_load at h
  cases hq : qp_items F.2.2 140 0 F.1.1 0 with
  | inl f =>
    rw [hq] at h hr
    dsimp only at h hr
    have hX1 : qr_X M1 F := by
      refine ⟨hZ1, ?_⟩
      rcases hX.2 with c | ⟨c, hL⟩
      · exact Or.inl ((hn1 _ _ _ (by unfold qf_C; omega)).trans c)
      · exact Or.inr ⟨(hn1 _ _ _ (by unfold qf_C; omega)).trans c, hL.fr hw.1.1.1.1 (fun t j k hf => hn1 t j k (by unfold qf_C; unfold qf_L at hf; omega))⟩
    refine sp_X6_hasFailed (fun c => mv_t ?_) (fun c => absurd c (by omega))
    have hk := qp_items_bound 140 0 F.1.1 0 (Nat.zero_le _) hw.1.1.1 hw.1.2.1 f hq
    have h140 := hw.2.2.2.1
    refine And.intro (by omega) ?_
    rw [hr]
    exact h M1 hX1 ho1
  | inr y =>
    obtain ⟨k, D⟩ := y
    rw [hq] at h hr
    dsimp only at h hr
    obtain ⟨e3, e2, hD⟩ := hr
    have hok := qp_items_ok 140 0 F.1.1 0 (Nat.zero_le _) hw.1.1.1 hw.1.2.1 k D hq
    refine sp_X6_hasFailed (fun c => absurd e3 c) (fun _ => mv_f ?_)
    refine qs_beginAction hZ1 hw (fun M2 hZ2 h6 ho2 => ?_)
    have hn2 : ∀ t j k, (t = 6 ∨ qf_C 19 t j) → M2.1 t j k = M1.1 t j k := fun t j k hf => ho2 t j k (fun z => by
      unfold qf_C at hf
      unfold qf_H qf_S at z
      rcases z with z | z | ⟨s, z1, z2, z3⟩ <;> omega)
    have hD2 : qr_C M2 19 D := hD.fr hok.1 (fun t j k hf => hn2 t j k (Or.inr hf))
    refine sp_X1_copyFrom (by decide) hD2 hok.1 (fun M3 hD3 hf3 => ?_)
    have hZ3 := hZ2.wc (qg_wF_act hw) hD3 hf3
    have e23 : M3.1 6 0 2 = (k : Int) := (hf3.1 _ _ _ (fun z => qf_C6 z rfl)).trans ((hn2 _ _ _ (Or.inl rfl)).trans e2)
    have h63 : M3.1 10 0 6 = 1 := (hf3.1 _ _ _ (fun z => by unfold qf_C at z; omega)).trans h6
    have e24 : ((mv_up M3.1 8 0 1 0, M3.2) : mv_M).1 6 0 2 = (k : Int) := (mv_nep (by decide)).trans e23
    rw [← e24] at h
    have hM : mv_of1 qf_X M3 (mv_up M3.1 8 0 1 0, M3.2) := mv_of1.rf.up (by unfold qf_X; omega)
    refine h (mv_up M3.1 8 0 1 0, M3.2) ⟨⟨?_, ?_, ?_⟩, Or.inl ((mv_nep (by decide)).trans h63)⟩ ?_
    · exact hZ3.1.fr ⟨hok.1, hw.1.1.2⟩ (fun t j k hf => mv_nep (fun z => by unfold qf_S at hf; omega))
    · obtain ⟨z1, z5, zr, zi, zL⟩ := hZ3.2.1
      exact ⟨(mv_nep (by decide)).trans z1, z5, zr, zi, fun i S hi => (zL i S hi).fr ((qg_wF_act hw).2.1 S (List.mem_of_getElem? hi)).1 (fun t j k hf => mv_nep (fun z => by unfold qf_S at hf; omega))⟩
    · exact ⟨mv_eqp, fun k s hk => by simp at hk⟩
    · refine (ho1.tr ?_).tr hM
      refine mv_of1.tr (F := qf_X) (fun t j k hf => ho2 t j k (fun z => hf ?_)) (hf3.of1 (fun t j => qf_CX))
      unfold qf_H qf_S at z
      unfold qf_X
      rcases z with z | z | ⟨s, z1, z2, z3⟩ <;> omega
