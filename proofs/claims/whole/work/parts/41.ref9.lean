/-! The reference: the other actions. -/
set_option maxRecDepth 100000 in
theorem sp_X11_lastSentence {a : Nat} {x : Int} {A : qg_A} {M : mv_M} {Q : mv_R} (ex : x = (a : Int)) (ha : a < 6) (hA : rq_A (M.1 24 0) (5 + 11 * a) A) (hw : qg_wA A) (h : ∀ r : Int, -1 ≤ r → r ≤ 200 → (∀ v : Int, r < v ↔ -1 < v ∧ ∀ l ∈ A.2.2, (l : Int) < v) → Q (some (.inl r)) M) : E_X11_lastSentence [.inr (11, 0), .inl x] M Q := by
  subst ex
  refine ev_X11_lastSentence ?_
  refine go_X11_lastSentence [4] 60 ?_
  have h8 := hw.2.2.2.1
  have h200 := hw.2.2.1
  have hl : ∀ (k : Nat) (r : Int), k ≤ A.2.2.length → (-1 ≤ r ∧ r ≤ 200 ∧ ∀ v : Int, r < v ↔ -1 < v ∧ ∀ l ∈ A.2.2.take k, (l : Int) < v) → J_X11_lastSentence Q 4 [some (.inr (11, 0)), some (.inl (a : Int)), some (.inl r), some (.inl (k : Int))] [] M := by
    refine mv_loop A.2.2.length (fun k r hk ih hI => ?_)
    obtain ⟨h1, h2, h3⟩ := hI
    refine go_X11_lastSentence [4] 60 ?_
    refine sp_X11_of (p := 2) rfl rfl (by omega) hA.2.2.1 ?_
    refine And.intro (fun c => ?_) (fun c => ?_)
    · have hk2 : k = A.2.2.length := by omega
      subst hk2
      rw [List.take_length] at h3
      exact h r h1 h2 h3
    · obtain ⟨l, hl⟩ := qg_some (show k < A.2.2.length by omega)
      have hll := hw.2.2.2.2 l (List.mem_of_getElem? hl)
      refine And.intro (by omega) ?_
      refine sp_X11_of (p := 3 + k) rfl (by omega) (by omega) (hA.2.2.2 k l hl) ?_
      refine sp_X11_more ?_
      refine And.intro (by omega) ?_
      refine ih (max r (l : Int)) (by omega) ⟨by omega, by omega, fun v => ?_⟩
      rw [qg_take hl]
      constructor
      · intro hv
        have := (h3 v).mp (by omega)
        refine ⟨this.1, fun y hy => ?_⟩
        rcases List.mem_append.mp hy with z | z
        · exact this.2 y z
        · rw [List.mem_singleton.mp z]; omega
      · rintro ⟨v1, v2⟩
        have := (h3 v).mpr ⟨v1, fun y hy => v2 y (List.mem_append_left _ hy)⟩
        have := v2 l (List.mem_append_right _ (List.mem_singleton.mpr rfl))
        omega
  exact hl 0 (-1) (Nat.zero_le _) ⟨by omega, by omega, fun v => ⟨fun z => ⟨z, fun y hy => by simp at hy⟩, fun z => z.1⟩⟩
set_option maxRecDepth 100000 in
theorem sp_X11_setArticle {F : qg_F} {a w v : Int} {M : mv_M} {Q : mv_R} (hZ : rr_Z M F) (hw : qg_wF F) (h : ∀ M', rr_Z M' (op_setArticle F a w v).2 → rr_of rf_X M M' → Q (some (.inl (op_setArticle F a w v).1)) M') : E_X11_setArticle [.inr (11, 0), .inl a, .inl w, .inl v] M Q := by
  refine ev_X11_setArticle ?_
  refine go_X11_setArticle [22, 62, 64] 60 ?_
  have hZ0 := hZ.R hw rr_th
  have hO0 := (rr_th (M := M)).wk (fun t k => rf_R_X)
  obtain ⟨M0, hM0⟩ : ∃ M0 : mv_M, M0 = (mv_up M.1 11 0 0 0, M.2) := ⟨_, rfl⟩
  rw [← hM0] at hZ0 hO0
  show E_X11_isArticle [.inr (11, 0), .inl a] (mv_up M.1 11 0 0 0, M.2) _
  rw [← hM0]
  have hwC := hw.1.1.1
  have h6 := hwC.1
  have bad : op_setArticle F a w v = (-1, F) → ∀ o, J_X11_setArticle Q 22 [some (.inr (11, 0)), some (.inl a), some (.inl w), some (.inl v), o] [] M0 ∧ J_X11_setArticle Q 62 [some (.inr (11, 0)), some (.inl a), some (.inl w), some (.inl v), o] [] M0 := by
    intro hc o
    rw [hc] at h
    refine ⟨?_, ?_⟩
    · refine go_X11_setArticle [] 60 ?_
      exact h M0 hZ0 hO0
    · refine go_X11_setArticle [] 60 ?_
      exact h M0 hZ0 hO0
  refine sp_X11_isArticle hZ0.1.1 h6 (fun c1 => mv_t ?_) (fun c1 => mv_f (bad (by unfold op_setArticle; rw [qg_art_none c1]) _).1)
  obtain ⟨n, A, rfl, hn, hA, ha⟩ := qg_art_some c1
  have hwA := hwC.2.2.1 A (List.mem_of_getElem? hA)
  have hr := hZ0.1.1.2.2.1 n A hA
  have eop : op_setArticle F (n : Int) w v = (if w = 0 then (if 0 ≤ v ∧ v ≤ 359 then ((A.1 : Int), qg_wc (qg_act F) (F.1.1.1.set (n : Int).toNat (v.toNat, A.2), F.1.1.2)) else (-1, F))
    else if w = 1 then (if (1 ≤ v ∧ v ≤ 200) ∧ ∀ l ∈ A.2.2, (l : Int) < v then ((A.2.1 : Int), qg_wc (qg_act F) (F.1.1.1.set (n : Int).toNat (A.1, v.toNat, A.2.2), F.1.1.2)) else (-1, F))
    else (-1, F)) := by
    unfold op_setArticle; rw [ha]
  rw [eop] at h bad
  have good : ∀ (p : Nat) (B : qg_A) (old : Int), w = (p : Int) → p ≤ 1 → 0 ≤ v → M0.1 24 0 (5 + 11 * n + p) = old → (∀ g : Nat → Int, g (5 + 11 * n + p) = v → (∀ k, k ≠ 5 + 11 * n + p → g k = M0.1 24 0 k) → rq_A g (5 + 11 * n) B) →
      (∀ M', rr_Z M' (qg_wc (qg_act F) (F.1.1.1.set n B, F.1.1.2)) → rr_of rf_X M M' → Q (some (.inl old)) M') → ∀ o, J_X11_setArticle Q 64 [some (.inr (11, 0)), some (.inl (n : Int)), some (.inl w), some (.inl v), o] [] M0 := by
    intro p B old hp hp1 hv hold hB hQ o
    subst hp
    refine go_X11_setArticle [] 60 ?_
    refine sp_X11_act hZ0 hw (fun M1 hZ1 hO1 => ?_)
    have n24 : ∀ k, M1.1 24 0 k = M0.1 24 0 k := fun k => hO1.1 24 0 k (by unfold rf_act; omega)
    refine sp_X11_of rfl rfl (by omega) ((n24 _).trans hold) ?_
    refine And.intro (by omega) (And.intro (by omega) (And.intro (by omega) (And.intro (by omega) ?_)))
    have en : (5 + 11 * (n : Int) + (p : Int)).toNat = 5 + 11 * n + p := by omega
    rw [en]
    have hup : rr_of rf_con M1 (mv_up M1.1 24 0 (5 + 11 * n + p) v, M1.2) := rr_of.rf.up (by unfold rf_con; omega)
    have hC2 : rq_C ((mv_up M1.1 24 0 (5 + 11 * n + p) v) 24 0) (F.1.1.1.set n B, F.1.1.2) := by
      refine (show rq_C (M1.1 24 0) F.1.1 from hZ1.1.1).setA hwC hn (hB _ mv_up_eq (fun k hk => (mv_up_ne (fun z => hk z.2.2)).trans (n24 k))) (fun k hk => mv_up_ne (by omega))
    exact hQ _ (hZ1.wc (qg_wF_act hw) hC2 (hup.wk (fun t k => rf_con_RC))) ((hO0.tr (hO1.wk (fun t k => rf_act_X))).tr (hup.wk (fun t k z => rf_RC_X (rf_con_RC z))))
  refine sp_X11_in (fun c2 => mv_nt ?_) (fun c2 => mv_nf (bad (by rw [if_neg (by omega), if_neg (by omega)]) _).1)
  have en : (n : Int).toNat = n := by omega
  refine And.intro (fun c3 => ?_) (fun c3 => ?_)
  · have hw1 : w = 1 := by omega
    subst hw1
    rw [if_neg (by omega), if_pos rfl] at h bad
    refine sp_X11_in (fun c4 => mv_t ?_) (fun c4 => mv_f (bad (by rw [if_neg (fun z => c4 z.1)]) _).2)
    refine sp_X11_lastSentence rfl (by omega) hr hwA (fun r r1 r2 hr3 => ?_)
    refine And.intro (fun c5 => ?_) (fun c5 => (bad (by rw [if_neg (fun z => absurd ((hr3 v).mpr ⟨by omega, z.2⟩) (by omega))]) _).2)
    have hall := ((hr3 v).mp c5).2
    rw [if_pos ⟨c4, hall⟩, en] at h
    obtain ⟨m, rfl⟩ := Int.eq_ofNat_of_zero_le (by omega : 0 ≤ v)
    refine good 1 (A.1, m, A.2.2) (A.2.1 : Int) rfl (by omega) (by omega) hr.2.1 (fun g g1 g2 => ⟨(g2 _ (by omega)).trans hr.1, g1, (g2 _ (by omega)).trans hr.2.2.1, fun k l hk => (g2 _ (by omega)).trans (hr.2.2.2 k l hk)⟩) (fun M' z1 z2 => h M' z1 z2) _
  · have hw0 : w = 0 := by omega
    subst hw0
    rw [if_pos rfl] at h bad
    refine sp_X11_in (fun c4 => mv_nt ?_) (fun c4 => mv_nf (bad (by rw [if_neg c4]) _).2)
    rw [if_pos c4, en] at h
    obtain ⟨m, rfl⟩ := Int.eq_ofNat_of_zero_le (by omega : 0 ≤ v)
    refine good 0 (m, A.2) (A.1 : Int) rfl (by omega) (by omega) hr.1 (fun g g1 g2 => ⟨g1, (g2 _ (by omega)).trans hr.2.1, (g2 _ (by omega)).trans hr.2.2.1, fun k l hk => (g2 _ (by omega)).trans (hr.2.2.2 k l hk)⟩) (fun M' z1 z2 => h M' z1 z2) _
set_option maxRecDepth 100000 in
theorem sp_X11_lift {F : qg_F} {q : Int} {M : mv_M} {Q : mv_R} (hZ : rr_Z M F) (hw : qg_wF F) (h : ∀ M', rr_Z M' (op_lift F q).2 → rr_of rf_X M M' → Q (some (.inl (op_lift F q).1)) M') : E_X11_lift [.inr (11, 0), .inl q] M Q := by
  refine ev_X11_lift ?_
  refine go_X11_lift [] 60 ?_
  have hZ0 := hZ.R hw rr_th
  have hO0 := (rr_th (M := M)).wk (fun t k => rf_R_X)
  obtain ⟨M0, hM0⟩ : ∃ M0 : mv_M, M0 = (mv_up M.1 11 0 0 0, M.2) := ⟨_, rfl⟩
  rw [← hM0] at hZ0 hO0
  show E_X11_isQuote [.inr (11, 0), .inl q] (mv_up M.1 11 0 0 0, M.2) _
  rw [← hM0]
  have hwC := hw.1.1.1
  have h8 := hwC.2.1
  unfold op_lift at h
  refine sp_X11_isQuote hZ0.1.1 h8 (fun c1 => mv_nt ?_) (fun c1 => mv_nf ?_)
  · obtain ⟨n, r, rfl, hn, hr, ha⟩ := qg_quo_some c1
    rw [ha] at h
    dsimp only at h
    refine sp_X11_isPlaced rfl (by omega) (hZ0.1.1.2.2.2.1 n r hr) (fun p hp => mv_nt ?_) (fun hp => mv_nf ?_)
    · rw [hp] at h
      dsimp only at h
      have en : (n : Int).toNat = n := by omega
      rw [en] at h
      refine sp_X11_act hZ0 hw (fun M1 hZ1 hO1 => ?_)
      refine sp_X11_setQuote (p := 4) rfl rfl (by omega) ?_
      have hup : rr_of (rf_put n) M1 (mv_up M1.1 24 0 (71 + 8 * n + 4) 0, M1.2) := rr_of.rf.up (by unfold rf_put; omega)
      have hwD := qg_wC_put hwC n qg_okp_none
      have hC2 : rq_C ((mv_up M1.1 24 0 (71 + 8 * n + 4) 0) 24 0) (qg_put F.1.1 n none) := (show rq_C (M1.1 24 0) F.1.1 from hZ1.1.1).put hwC hr mv_up_eq (fun k hk => mv_up_ne (by omega))
      refine sp_X11_unrest hC2 hwD.2.1 (fun x hx => (hwD.2.2.2.1 x hx).1) ?_
      exact h _ (hZ1.wc (qg_wF_act hw) hC2 (hup.wk (fun t k => rf_put_RC (by omega)))) ((hO0.tr (hO1.wk (fun t k => rf_act_X))).tr (hup.wk (fun t k z => rf_RC_X (rf_put_RC (by omega) z))))
    · rw [hp] at h
      exact h M0 hZ0 hO0
  · rw [qg_quo_none c1] at h
    exact h M0 hZ0 hO0
set_option maxRecDepth 100000 in
theorem sp_X11_place {F : qg_F} {q p c r : Int} {M : mv_M} {Q : mv_R} (hZ : rr_Z M F) (hw : qg_wF F) (h : ∀ M', rr_Z M' (op_place F q p c r).2 → rr_of rf_X M M' → Q (some (.inl (op_place F q p c r).1)) M') : E_X11_place [.inr (11, 0), .inl q, .inl p, .inl c, .inl r] M Q := by
  refine ev_X11_place ?_
  refine go_X11_place [23] 60 ?_
  have hZ0 := hZ.R hw rr_th
  have hO0 := (rr_th (M := M)).wk (fun t k => rf_R_X)
  obtain ⟨M0, hM0⟩ : ∃ M0 : mv_M, M0 = (mv_up M.1 11 0 0 0, M.2) := ⟨_, rfl⟩
  rw [← hM0] at hZ0 hO0
  show E_X11_isQuote [.inr (11, 0), .inl q] (mv_up M.1 11 0 0 0, M.2) _
  rw [← hM0]
  have hwC := hw.1.1.1
  have h8 := hwC.2.1
  unfold op_place at h
  have bad : ¬ ((0 ≤ q ∧ q < (F.1.1.2.1.length : Int)) ∧ (0 ≤ p ∧ p ≤ 2) ∧ (0 ≤ c ∧ c ≤ 5) ∧ (0 ≤ r ∧ r ≤ 19)) → J_X11_place Q 23 [some (.inr (11, 0)), some (.inl q), some (.inl p), some (.inl c), some (.inl r)] [] M0 := by
    intro hc
    rw [if_neg hc] at h
    refine go_X11_place [] 60 ?_
    exact h M0 hZ0 hO0
  refine sp_X11_isQuote hZ0.1.1 h8 (fun c1 => mv_t ?_) (fun c1 => mv_f (bad (fun z => c1 z.1)))
  refine sp_X11_isPlace (fun c2 => mv_nt ?_) (fun c2 => mv_nf (bad (fun z => c2 z.2)))
  rw [if_pos ⟨c1, c2⟩] at h
  obtain ⟨n, x, rfl, hn, hx, ha⟩ := qg_quo_some c1
  obtain ⟨p, rfl⟩ := Int.eq_ofNat_of_zero_le c2.1.1
  obtain ⟨c, rfl⟩ := Int.eq_ofNat_of_zero_le c2.2.1.1
  obtain ⟨r, rfl⟩ := Int.eq_ofNat_of_zero_le c2.2.2.1
  rw [show (n : Int).toNat = n by omega, show (p : Int).toNat = p by omega, show (c : Int).toNat = c by omega, show (r : Int).toNat = r by omega] at h
  have hok : qg_okp (some (p, c, r)) := qg_okp_of (by omega) (by omega) (by omega)
  refine sp_X11_refusalOf (p := (p, c, r)) rfl rfl rfl rfl hZ0.1.1 hwC hw.1.2.1 hx hok (fun M1 hC1 hO1 => ?_)
  have hZ1 : rr_Z M1 F := hZ0.wc hw hC1 (hO1.wk (fun t k => rf_try_RC (by omega)))
  have hO01 := hO0.tr (hO1.wk (fun t k z => rf_RC_X (rf_try_RC (by omega) z)))
  refine And.intro (fun c3 => ?_) (fun c3 => ?_)
  · rw [if_pos c3] at h
    refine sp_X11_act hZ1 hw (fun M2 hZ2 hO2 => ?_)
    refine sp_X11_put (p := (p, c, r)) rfl rfl rfl rfl (by omega) (fun M3 hP3 hO3 => ?_)
    have hwD := qg_wC_put hwC n hok
    have hC3 := (show rq_C (M2.1 24 0) F.1.1 from hZ2.1.1).put hwC hx hP3 (fun k hk => hO3.1 24 0 k (by unfold rf_put; omega))
    refine sp_X11_unrest hC3 hwD.2.1 (fun x hx => (hwD.2.2.2.1 x hx).1) ?_
    exact h _ (hZ2.wc (qg_wF_act hw) hC3 (hO3.wk (fun t k => rf_put_RC (by omega)))) ((hO01.tr (hO2.wk (fun t k => rf_act_X))).tr (hO3.wk (fun t k z => rf_RC_X (rf_put_RC (by omega) z))))
  · rw [if_neg c3] at h
    exact h M1 hZ1 hO01
set_option maxRecDepth 100000 in
theorem sp_X11_setRule {F : qg_F} {w v : Int} {M : mv_M} {Q : mv_R} (hZ : rr_Z M F) (hw : qg_wF F) (h : ∀ M', rr_Z M' (op_setRule F w v).2 → rr_of rf_X M M' → Q (some (.inl (op_setRule F w v).1)) M') : E_X11_setRule [.inr (11, 0), .inl w, .inl v] M Q := by
  refine ev_X11_setRule ?_
  refine go_X11_setRule [33, 66, 89, 90] 60 ?_
  have hZ0 := hZ.R hw rr_th
  have hO0 := (rr_th (M := M)).wk (fun t k => rf_R_X)
  obtain ⟨M0, hM0⟩ : ∃ M0 : mv_M, M0 = (mv_up M.1 11 0 0 0, M.2) := ⟨_, rfl⟩
  rw [← hM0] at hZ0 hO0
  have hwC := hw.1.1.1
  have h6 := hwC.1
  have e2 := hZ0.1.1.n2
  have e3 := hZ0.1.1.n3
  have e4 := hZ0.1.1.n4
  have bad : op_setRule F w v = (-1, F) → ∀ pc, (pc = 33 ∨ pc = 66 ∨ pc = 89) → J_X11_setRule Q pc [some (.inr (11, 0)), some (.inl w), some (.inl v), none, none] [] M0 := by
    intro hc pc hpc
    rw [hc] at h
    rcases hpc with e | e | e
    all_goals (subst e; refine go_X11_setRule [] 60 ?_; exact mv_nf (h M0 hZ0 hO0))
  have good : ∀ (p : Nat) (R : Nat × Nat × Nat) (old : Int), w = (p : Int) → p ≤ 2 → M0.1 24 0 (2 + p) = old → (∀ g : Nat → Int, g (2 + p) = v → (∀ k, k ≠ 2 + p → g k = M0.1 24 0 k) → g 2 = (R.1 : Int) ∧ g 3 = (R.2.1 : Int) ∧ g 4 = (R.2.2 : Int)) → op_setRule F w v = (old, qg_wc (qg_act F) (F.1.1.1, F.1.1.2.1, R)) →
      J_X11_setRule Q 90 [some (.inr (11, 0)), some (.inl w), some (.inl v), none, none] [.inl 1] M0 := by
    intro p R old hp hp2 hold hR hop
    rw [hop] at h
    subst hp
    refine go_X11_setRule [] 60 ?_
    refine mv_nt ?_
    refine sp_X11_act hZ0 hw (fun M1 hZ1 hO1 => ?_)
    have n24 : ∀ k, M1.1 24 0 k = M0.1 24 0 k := fun k => hO1.1 24 0 k (by unfold rf_act; omega)
    have hC1 : rq_C (M1.1 24 0) F.1.1 := hZ1.1.1
    refine And.intro (by omega) (And.intro (by omega) ?_)
    have en : (2 + (p : Int)).toNat = 2 + p := by omega
    rw [en]
    refine And.intro (by omega) (And.intro (by omega) ?_)
    rw [en]
    have hup : rr_of rf_con M1 (mv_up M1.1 24 0 (2 + p) v, M1.2) := rr_of.rf.up (by unfold rf_con; omega)
    have g := hR ((mv_up M1.1 24 0 (2 + p) v) 24 0) mv_up_eq (fun k hk => (mv_up_ne (fun z => hk z.2.2)).trans (n24 k))
    have hC2 : rq_C ((mv_up M1.1 24 0 (2 + p) v) 24 0) (F.1.1.1, F.1.1.2.1, R) := by
      refine ⟨(mv_up_ne (by omega)).trans hC1.1, (mv_up_ne (by omega)).trans hC1.2.1, fun i a ha => (hC1.2.2.1 i a ha).fr (hwC.2.2.1 a (List.mem_of_getElem? ha)).2.2.2.1 (fun k hk => mv_up_ne (by omega)), fun i q hq => (hC1.2.2.2.1 i q hq).fr (fun k hk => mv_up_ne (by omega)), g⟩
    have hh := h _ (hZ1.wc (qg_wF_act hw) hC2 (hup.wk (fun t k => rf_con_RC))) ((hO0.tr (hO1.wk (fun t k => rf_act_X))).tr (hup.wk (fun t k z => rf_RC_X (rf_con_RC z))))
    have eo : M1.1 24 0 (2 + p) = old := (n24 _).trans hold
    rw [← eo] at hh
    exact hh
  have rew : ∀ {P : mv_M → Prop}, P M0 → P (mv_up M.1 11 0 0 0, M.2) := fun {P} hp => by rw [← hM0]; exact hp
  refine And.intro (fun c1 => ?_) (fun c1 => ?_)
  · refine And.intro (fun c2 => ?_) (fun c2 => ?_)
    · refine And.intro (fun c3 => rew (P := fun M => J_X11_setRule Q 89 [some (.inr (11, 0)), some (.inl w), some (.inl v), none, none] [] M) (bad (by unfold op_setRule; rw [if_neg (by omega), if_neg (by omega), if_neg (by omega)]) 89 (by omega))) (fun c3 => ?_)
      refine sp_X11_in (fun c4 => mv_t ?_) (fun c4 => mv_f (rew (P := fun M => J_X11_setRule Q 89 [some (.inr (11, 0)), some (.inl w), some (.inl v), none, none] [] M) (bad (by unfold op_setRule; rw [if_neg (by omega), if_neg (by omega), if_pos (by omega), if_neg c4]) 89 (by omega))))
      obtain ⟨m, hm⟩ := Int.eq_ofNat_of_zero_le (by omega : 0 ≤ v)
      refine rew (P := fun M => J_X11_setRule Q 90 [some (.inr (11, 0)), some (.inl w), some (.inl v), none, none] [.inl 1] M) (good 2 (F.1.1.2.2.1, F.1.1.2.2.2.1, m) (F.1.1.2.2.2.2 : Int) (by omega) (by omega) e4 (fun g g1 g2 => ⟨(g2 2 (by omega)).trans e2, (g2 3 (by omega)).trans e3, g1.trans hm⟩) ?_)
      unfold op_setRule
      rw [if_neg (by omega), if_neg (by omega), if_pos (by omega), if_pos c4, show v.toNat = m by omega]
    · have e3' : (mv_up M.1 11 0 0 0, M.2).1 24 0 (2 : Int).toNat = (F.1.1.2.2.1 : Int) := by rw [← hM0]; exact e2
      refine sp_X11_in (fun c4 => mv_t ?_) (fun c4 => mv_f (rew (P := fun M => J_X11_setRule Q 66 [some (.inr (11, 0)), some (.inl w), some (.inl v), none, none] [] M) (bad (by unfold op_setRule; rw [if_neg (by omega), if_pos (by omega), if_neg (fun z => c4 z.1)]) 66 (by omega))))
      refine And.intro (by omega) ?_
      rw [e3']
      refine And.intro (fun c5 => rew (P := fun M => J_X11_setRule Q 66 [some (.inr (11, 0)), some (.inl w), some (.inl v), none, none] [] M) (bad (by unfold op_setRule; rw [if_neg (by omega), if_pos (by omega), if_neg (fun z => absurd z.2 (by omega))]) 66 (by omega))) (fun c5 => ?_)
      obtain ⟨m, hm⟩ := Int.eq_ofNat_of_zero_le (by omega : 0 ≤ v)
      refine rew (P := fun M => J_X11_setRule Q 90 [some (.inr (11, 0)), some (.inl w), some (.inl v), none, none] [.inl 1] M) (good 1 (F.1.1.2.2.1, m, F.1.1.2.2.2.2) (F.1.1.2.2.2.1 : Int) (by omega) (by omega) e3 (fun g g1 g2 => ⟨(g2 2 (by omega)).trans e2, g1.trans hm, (g2 4 (by omega)).trans e4⟩) ?_)
      unfold op_setRule
      rw [if_neg (by omega), if_pos (by omega), if_pos ⟨c4, by omega⟩, show v.toNat = m by omega]
  · have e3' : (mv_up M.1 11 0 0 0, M.2).1 24 0 (3 : Int).toNat = (F.1.1.2.2.2.1 : Int) := by rw [← hM0]; exact e3
    refine sp_X11_in (fun c4 => mv_t ?_) (fun c4 => mv_f (rew (P := fun M => J_X11_setRule Q 33 [some (.inr (11, 0)), some (.inl w), some (.inl v), none, none] [] M) (bad (by unfold op_setRule; rw [if_pos (by omega), if_neg (fun z => c4 z.1)]) 33 (by omega))))
    refine And.intro (by omega) ?_
    rw [e3']
    refine And.intro (fun c5 => rew (P := fun M => J_X11_setRule Q 33 [some (.inr (11, 0)), some (.inl w), some (.inl v), none, none] [] M) (bad (by unfold op_setRule; rw [if_pos (by omega), if_neg (fun z => absurd z.2 (by omega))]) 33 (by omega))) (fun c5 => ?_)
    obtain ⟨m, hm⟩ := Int.eq_ofNat_of_zero_le (by omega : 0 ≤ v)
    refine rew (P := fun M => J_X11_setRule Q 90 [some (.inr (11, 0)), some (.inl w), some (.inl v), none, none] [.inl 1] M) (good 0 (m, F.1.1.2.2.2.1, F.1.1.2.2.2.2) (F.1.1.2.2.1 : Int) (by omega) (by omega) e2 (fun g g1 g2 => ⟨g1.trans hm, (g2 3 (by omega)).trans e3, (g2 4 (by omega)).trans e4⟩) ?_)
    unfold op_setRule
    rw [if_pos (by omega), if_pos ⟨c4, by omega⟩, show v.toNat = m by omega]
