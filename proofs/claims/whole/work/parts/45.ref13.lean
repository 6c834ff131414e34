/-! The reference: load; counting. -/
set_option maxRecDepth 100000 in
theorem sp_X11_load {F : qg_F} {M : mv_M} {Q : mv_R} (hZ : rr_Z M F) (hw : qg_wF F) (h : ∀ M', rr_Z M' (op_load F).2 → rr_of rf_X M M' → Q (some (.inl (op_load F).1)) M') : E_X11_load [.inr (11, 0)] M Q := by
  refine ev_X11_load ?_
  refine go_X11_load [18] 60 ?_
  have hZ0 := hZ.R hw rr_th
  have hO0 := (rr_th (M := M)).wk (fun t k => rf_R_X)
  obtain ⟨M0, hM0⟩ : ∃ M0 : mv_M, M0 = (mv_up M.1 11 0 0 0, M.2) := ⟨_, rfl⟩
  rw [← hM0] at hZ0 hO0
  show E_X11_hold [.inr (11, 0)] (mv_up M.1 11 0 0 0, M.2) _
  rw [← hM0]
  have hwC := hw.1.1.1
  have h140 := hw.2.2.2.1
  have h255 : ∀ s ∈ F.2.2, s ≤ 255 := fun s hs => (hw.2.2.2.2 s hs).2
  refine sp_X11_hold (fun M1 h25 hO1 => ?_)
  obtain ⟨M2, hM2⟩ : ∃ M2 : mv_M, M2 = (mv_up M1.1 11 0 17 0, M1.2) := ⟨_, rfl⟩
  have a25 : ∀ k, k < 407 → M2.1 25 0 k = M0.1 24 0 k := fun k hk => by
    rw [hM2]
    exact (mv_nep (by omega)).trans (h25 k hk)
  have o2 : ∀ t k, t ≠ 25 → ¬ (t = 11 ∧ k = 17) → M2.1 t 0 k = M0.1 t 0 k := fun t k h1 h2 => by
    rw [hM2]
    exact (mv_nep (by omega)).trans (hO1.1 t 0 k h1)
  have hX2 : rr_of rf_X M M2 := by
    rw [hM2]
    exact (hO0.tr (hO1.wk (fun t k z => by unfold rf_X; omega))).up (by unfold rf_X; omega)
  have hT2 : rr_Tx M2 F.2.2 := hZ0.2.2.fr (o2 _ _ (by decide) (by decide)) (fun k => o2 _ _ (by decide) (by omega))
  have hC2 : rq_C (M2.1 24 0) F.1.1 := hZ0.1.1.fr hwC (fun k _ => o2 24 k (by decide) (by omega))
  have g17 : M2.1 11 0 17 = 0 := by rw [hM2]; exact mv_eqp
  obtain ⟨R, hR0⟩ : ∃ R, R = qp_items F.2.2 140 0 F.1.1 0 := ⟨_, rfl⟩
  unfold op_load at h
  rw [← hR0] at h
  -- the end: what was read is put back
  have swap : ∀ (M5 M6 : mv_M), rr_of rf_rd M2 M5 → (∀ k, k < 407 → M6.1 24 0 k = M5.1 25 0 k) → (∀ k, k < 407 → M6.1 25 0 k = M5.1 24 0 k) → rr_of (fun t _ => t = 24 ∨ t = 25) M5 M6 → rr_Z M6 F ∧ rr_of rf_X M M6 := by
    intro M5 M6 hO5 h24 _ hO6
    have o6 : ∀ t k, t ≠ 24 → t ≠ 25 → ¬ (t = 11 ∧ (k = 17 ∨ k = 18)) → M6.1 t 0 k = M0.1 t 0 k := fun t k h1 h2 h3 => (hO6.1 t 0 k (by omega)).trans ((hO5.1 t 0 k (by unfold rf_rd; omega)).trans (o2 t k h2 (by omega)))
    refine ⟨⟨hZ0.1.fr hw.1.1 (fun k hk => (h24 k hk).trans ((hO5.1 25 0 k (by unfold rf_rd; omega)).trans (a25 k hk))), hZ0.2.1.fr (qg_wF_H hw) (o6 _ _ (by decide) (by decide) (by decide)) (fun k => o6 _ _ (by decide) (by decide) (by omega)), hZ0.2.2.fr (o6 _ _ (by decide) (by decide) (by decide)) (fun k => o6 _ _ (by decide) (by decide) (by omega))⟩, (hX2.tr (hO5.wk (fun t k z => by unfold rf_rd at z; unfold rf_X; omega))).tr (hO6.wk (fun t k z => by unfold rf_X; omega))⟩
  have bad : ∀ (M5 : mv_M) (f : Nat) (y : Int), R = .inl f → rr_of rf_rd M2 M5 → M5.1 11 0 17 = (f : Int) → f ≤ 140 → J_X11_load Q 40 [some (.inr (11, 0)), some (.inl y), some (.inl 0)] [] M5 := by
    intro M5 f y hRf hO5 g f140
    rw [hRf] at h
    dsimp only at h
    refine go_X11_load [] 60 ?_
    refine sp_X11_exchange (fun M6 h24 h25' hO6 => ?_)
    obtain ⟨hZ6, hX6⟩ := swap M5 M6 hO5 h24 h25' hO6
    have g6 : M6.1 11 0 17 = (f : Int) := (hO6.1 _ _ _ (by omega)).trans g
    refine mv_nf ?_
    refine And.intro (by omega) ?_
    have hh := h M6 hZ6 hX6
    rw [← g6] at hh
    exact hh
  have good : ∀ (M5 : mv_M) (k : Nat) (D : qg_C), R = .inr (k, D) → rr_of rf_rd M2 M5 → rq_C (M5.1 24 0) D → qg_wC D → J_X11_load Q 40 [some (.inr (11, 0)), some (.inl (k : Int)), some (.inl 1)] [] M5 := by
    intro M5 k D hRk hO5 hD hwD
    rw [hRk] at h
    dsimp only at h
    refine go_X11_load [] 60 ?_
    refine sp_X11_exchange (fun M6 h24 h25' hO6 => ?_)
    obtain ⟨hZ6, hX6⟩ := swap M5 M6 hO5 h24 h25' hO6
    refine mv_nt ?_
    refine sp_X11_act hZ6 hw (fun M7 hZ7 hO7 => ?_)
    refine sp_X11_exchange (fun M8 k24 k25 hO8 => ?_)
    have d24 : ∀ k, k < 407 → M8.1 24 0 k = M5.1 24 0 k := fun k hk => (k24 k hk).trans ((hO7.1 25 0 k (by unfold rf_act; omega)).trans (h25' k hk))
    have o8 : ∀ t k, t ≠ 24 → t ≠ 25 → ¬ (t = 11 ∧ k = 6) → ((mv_up M8.1 11 0 6 0, M8.2) : mv_M).1 t 0 k = M7.1 t 0 k := fun t k h1 h2 h3 => (mv_nep (by omega)).trans (hO8.1 t 0 k (by omega))
    have q24 : ∀ k, k < 407 → ((mv_up M8.1 11 0 6 0, M8.2) : mv_M).1 24 0 k = M5.1 24 0 k := fun k hk => (mv_nep (by omega)).trans (d24 k hk)
    refine h (mv_up M8.1 11 0 6 0, M8.2) ⟨⟨hD.fr hwD (fun k hk => q24 k (by omega)), fun k hk => ?_⟩, hZ7.2.1.fr (qg_wF_H (qg_wF_act hw)) (o8 _ _ (by decide) (by decide) (by decide)) (fun k => o8 _ _ (by decide) (by decide) (by omega)), mv_eqp, fun k s hk => by simp at hk⟩ (((hX6.tr (hO7.wk (fun t k => rf_act_X))).tr (hO8.wk (fun t k z => by unfold rf_X; omega))).up (by unfold rf_X; omega))
    show rq_O _ k (qg_sn F.1 k)
    refine (hZ0.1.2 k hk).fr hk (hw.1.1.2 k) (fun i i1 i2 => (q24 i i2).trans ((hO5.1 24 0 i (by unfold rf_rd; omega)).trans (o2 24 i (by decide) (by omega))))
  have hl : ∀ (i : Nat) (q : mv_M × Nat × qg_C), i ≤ 140 → (rr_of rf_rd M2 q.1 ∧ q.1.1 11 0 17 = (q.2.1 : Int) ∧ q.2.1 ≤ F.2.2.length ∧ rq_C (q.1.1 24 0) q.2.2 ∧ qg_wC q.2.2 ∧ qg_inC q.2.2 ∧ qp_items F.2.2 (140 - i) q.2.1 q.2.2 i = R ∧ 2 * i ≤ q.2.1) → ∀ x : Int, x = (i : Int) →
      J_X11_load Q 18 [some (.inr (11, 0)), some (.inl x), some (.inl 1)] [] q.1 := by
    refine mv_loop 140 (fun i q hi ih hI x hx => ?_)
    subst hx
    obtain ⟨M3, p, D⟩ := q
    obtain ⟨hO3, e17, hp, hD, hwD, hiD, hR, h2i⟩ := hI
    dsimp only at hO3 e17 hp hD hwD hiD hR h2i ⊢
    have hT3 := hT2.rd hO3
    rw [show 140 - i = (140 - (i + 1)) + 1 by omega, qp_items_succ] at hR
    have hs := qp_skip_ok F.2.2 hp
    refine go_X11_load [18, 40] 60 ?_
    refine mv_t ?_
    refine sp_X11_here hT3 h140 e17 hp (fun M4 hp4 => ?_)
    have hO4 := hO3.tr hp4.of
    have hD4 := hp4.c hD hwD
    refine And.intro (fun c => ?_) (fun c => ?_)
    · have hge : ¬ qp_skip F.2.2 p < F.2.2.length := fun z => by unfold rq_sg at c; rw [if_pos z] at c; omega
      rw [if_pos (qp_at_out (by omega))] at hR
      exact good M4 i D hR.symm hO4 hD4 hwD
    · have hlt : qp_skip F.2.2 p < F.2.2.length := by
        rcases Nat.lt_or_ge (qp_skip F.2.2 p) F.2.2.length with z | z
        · exact z
        · unfold rq_sg at c
          rw [if_neg (by omega)] at c
          omega
      have hne : ¬ qp_at F.2.2 (qp_skip F.2.2 p) = 0 := by
        have := (hw.2.2.2.2 _ (List.mem_of_getElem? (qp_at_in hlt))).1
        omega
      rw [if_neg hne] at hR
      refine sp_X11_readsItem (hT2.rd hO4) h140 h255 hp4.1 hs.2 (qp_skip_skip _ _) hD4 hwD hiD (fun M5 x hres => ?_)
      have hok := qp_item_ok hs.2 hwD hiD
      cases hq : qp_item F.2.2 (qp_skip F.2.2 p) D with
      | inl f =>
        rw [hq] at hR hres hok
        dsimp only at hR
        obtain ⟨hO5, e, g5⟩ := hres
        subst e
        refine And.intro (by omega) ?_
        refine go_X11_load [40] 60 ?_
        refine mv_f ?_
        exact bad M5 f _ hR.symm (hO4.tr hO5) g5 (by have hok : f ≤ F.2.2.length := hok; omega)
      | inr y =>
        obtain ⟨e, D'⟩ := y
        rw [hq] at hR hres hok
        dsimp only at hR
        obtain ⟨hO5, ex, g5, hD5⟩ := hres
        subst ex
        obtain ⟨k1, k2, k3, k4⟩ := hok
        refine And.intro (by omega) ?_
        exact ih (M5, e, D') (by omega) ⟨hO4.tr hO5, g5, k2, hD5, k3, k4, hR, by show 2 * (i + 1) ≤ e; omega⟩ _ (by omega)
  have hh := hl 0 (M2, 0, F.1.1) (by omega) ⟨rr_of.rf, g17, Nat.zero_le _, hC2, hwC, hw.1.2.1, hR0.symm, by omega⟩ 0 rfl
  rw [hM2] at hh
  exact hh
set_option maxRecDepth 100000 in
theorem sp_X11_sum30 {C : qg_C} {f : Nat → Nat} {M : mv_M} {Q : mv_R} (hC : rq_C (M.1 24 0) C) (h6 : C.1.length ≤ 6) (hv : ∀ i, i < C.1.length → M.1 30 0 i = (f i : Int)) (hf : ∀ i, i < C.1.length → f i ≤ 1000) (h : Q (some (.inl (qg_sum f C.1.length : Int))) M) : E_X11_sum [.inr (11, 0), .inr (30, 0)] M Q := by
  refine ev_X11_sum ?_
  refine go_X11_sum [4] 60 ?_
  have e0 := hC.n0
  have hl : ∀ (i : Nat) (s : Unit), i ≤ C.1.length → J_X11_sum Q 4 [some (.inr (11, 0)), some (.inr (30, 0)), some (.inl (qg_sum f i : Int)), some (.inl (i : Int))] [] M := by
    refine mv_loop C.1.length (fun i _ hi ih => ?_)
    have hb := qg_sum_le (f := f) (b := 1000) i (fun j hj => hf j (by omega))
    refine go_X11_sum [4] 60 ?_
    refine And.intro (by omega) ?_
    refine And.intro (fun c => ?_) (fun c => ?_)
    · have : i = C.1.length := by omega
      subst this
      exact h
    · have hlt : i < C.1.length := by omega
      have ei : (i : Int).toNat = i := by omega
      have hvi := hv i hlt
      have hfi := hf i hlt
      refine And.intro (by omega) ?_
      rw [ei, hvi]
      refine And.intro (by omega) (And.intro (by omega) ?_)
      have hh := ih () hlt
      rw [qg_sum_succ] at hh
      exact hh
  exact hl 0 () (Nat.zero_le _)
set_option maxRecDepth 100000 in
theorem sp_X11_sum31 {C : qg_C} {f : Nat → Nat} {M : mv_M} {Q : mv_R} (hC : rq_C (M.1 24 0) C) (h6 : C.1.length ≤ 6) (hv : ∀ i, i < C.1.length → M.1 31 0 i = (f i : Int)) (hf : ∀ i, i < C.1.length → f i ≤ 1000) (h : Q (some (.inl (qg_sum f C.1.length : Int))) M) : E_X11_sum [.inr (11, 0), .inr (31, 0)] M Q := by
  refine ev_X11_sum ?_
  refine go_X11_sum [4] 60 ?_
  have e0 := hC.n0
  have hl : ∀ (i : Nat) (s : Unit), i ≤ C.1.length → J_X11_sum Q 4 [some (.inr (11, 0)), some (.inr (31, 0)), some (.inl (qg_sum f i : Int)), some (.inl (i : Int))] [] M := by
    refine mv_loop C.1.length (fun i _ hi ih => ?_)
    have hb := qg_sum_le (f := f) (b := 1000) i (fun j hj => hf j (by omega))
    refine go_X11_sum [4] 60 ?_
    refine And.intro (by omega) ?_
    refine And.intro (fun c => ?_) (fun c => ?_)
    · have : i = C.1.length := by omega
      subst this
      exact h
    · have hlt : i < C.1.length := by omega
      have ei : (i : Int).toNat = i := by omega
      have hvi := hv i hlt
      have hfi := hf i hlt
      refine And.intro (by omega) ?_
      rw [ei, hvi]
      refine And.intro (by omega) (And.intro (by omega) ?_)
      have hh := ih () hlt
      rw [qg_sum_succ] at hh
      exact hh
  exact hl 0 () (Nat.zero_le _)
def rq_cnt (T : Nat → Nat) (a lo hi : Nat) : Nat → Nat
  | 0 => 0
  | n + 1 => rq_cnt T a lo hi n + (if lo ≤ T (a + n) ∧ T (a + n) ≤ hi then 1 else 0)
theorem rq_cnt_succ (T : Nat → Nat) (a lo hi n : Nat) : rq_cnt T a lo hi (n + 1) = rq_cnt T a lo hi n + (if lo ≤ T (a + n) ∧ T (a + n) ≤ hi then 1 else 0) := rfl
theorem qg_cnt_succ (T : Nat → Nat) (a v n : Nat) : qg_cnt T a v (n + 1) = qg_cnt T a v n + (if v ≤ T (a + n) then 1 else 0) := rfl
theorem rq_cnt_le (T : Nat → Nat) (a lo hi : Nat) : ∀ n, rq_cnt T a lo hi n ≤ n
  | 0 => Nat.le_refl _
  | n + 1 => by
    have := rq_cnt_le T a lo hi n
    rw [rq_cnt_succ]
    split <;> omega
theorem rq_cnt_all {T : Nat → Nat} (hT : ∀ m, T m ≤ 28) (a lo : Nat) : ∀ n, rq_cnt T a lo 99 n = qg_cnt T a lo n
  | 0 => rfl
  | n + 1 => by
    have h := hT (a + n)
    rw [rq_cnt_succ, qg_cnt_succ, rq_cnt_all hT a lo n]
    by_cases c : lo ≤ T (a + n)
    · rw [if_pos ⟨c, by omega⟩, if_pos c]
    · rw [if_neg (fun z => c z.1), if_neg c]
theorem rq_cnt_20 (T : Nat → Nat) (a : Nat) : ∀ n, rq_cnt T a 1 20 n + qg_cnt T a 21 n = qg_cnt T a 1 n
  | 0 => rfl
  | n + 1 => by
    have h := rq_cnt_20 T a n
    rw [rq_cnt_succ, qg_cnt_succ, qg_cnt_succ]
    by_cases c : 21 ≤ T (a + n)
    · rw [if_neg (by omega), if_pos c, if_pos (by omega)]; omega
    · by_cases d : 1 ≤ T (a + n)
      · rw [if_pos (by omega), if_neg c, if_pos d]; omega
      · rw [if_neg (by omega), if_neg c, if_neg d]; omega
set_option maxRecDepth 100000 in
theorem sp_X11_takenMany {a n lo hi : Nat} {x y z w : Int} {T : Nat → Nat} {M : mv_M} {Q : mv_R} (ex : x = (a : Int)) (ey : y = ((a + n : Nat) : Int)) (ez : z = (lo : Int)) (ew : w = (hi : Int)) (hT : ∀ m, m < 360 → M.1 28 0 m = (T m : Int)) (hn : a + n ≤ 360) (h : Q (some (.inl (rq_cnt T a lo hi n : Int))) M) : E_X11_takenMany [.inr (11, 0), .inl x, .inl y, .inl z, .inl w] M Q := by
  subst ex; subst ey; subst ez; subst ew
  refine ev_X11_takenMany ?_
  refine go_X11_takenMany [6] 60 ?_
  have hl : ∀ (i : Nat) (s : Unit), i ≤ n → ∀ u : Int, u = ((a + i : Nat) : Int) → J_X11_takenMany Q 6 [some (.inr (11, 0)), some (.inl (a : Int)), some (.inl ((a + n : Nat) : Int)), some (.inl (lo : Int)), some (.inl (hi : Int)), some (.inl (rq_cnt T a lo hi i : Int)), some (.inl u)] [] M := by
    refine mv_loop n (fun i _ hi' ih u hu => ?_)
    subst hu
    have hb := rq_cnt_le T a lo hi i
    refine go_X11_takenMany [6] 60 ?_
    refine And.intro (fun c => ?_) (fun c => ?_)
    · have : i = n := by omega
      subst this
      exact h
    · have hlt : i < n := by omega
      have ih' := ih () hlt
      rw [rq_cnt_succ] at ih'
      have ei : ((a + i : Nat) : Int).toNat = a + i := by omega
      refine And.intro (by omega) ?_
      rw [ei, hT (a + i) (by omega)]
      refine sp_X11_in (fun c2 => mv_t ?_) (fun c2 => mv_f ?_)
      · rw [if_pos (by omega)] at ih'
        refine And.intro (by omega) (And.intro (by omega) ?_)
        exact ih' _ (by omega)
      · rw [if_neg (by omega)] at ih'
        refine And.intro (by omega) (And.intro (by omega) ?_)
        rw [Int.add_zero]
        exact ih' _ (by omega)
  exact hl 0 () (Nat.zero_le _) _ rfl
