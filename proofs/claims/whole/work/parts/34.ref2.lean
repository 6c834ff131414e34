/-! The reference: what is read of quotes; put. -/
set_option maxRecDepth 100000 in
theorem sp_X11_placedMany {C : qg_C} {M : mv_M} {Q : mv_R} (hC : rq_C (M.1 24 0) C) (hw : C.2.1.length ≤ 8) (h : Q (some (.inl (qg_placed C.2.1 : Int))) M) : E_X11_placedMany [.inr (11, 0)] M Q := by
  refine ev_X11_placedMany ?_
  refine go_X11_placedMany [4] 60 ?_
  have e1 := hC.n1
  have hl : ∀ (i : Nat) (s : Unit), i ≤ C.2.1.length → J_X11_placedMany Q 4 [some (.inr (11, 0)), some (.inl (qg_placed (C.2.1.take i) : Int)), some (.inl (i : Int))] [] M := by
    refine mv_loop C.2.1.length (fun i _ hi ih => ?_)
    refine go_X11_placedMany [4] 60 ?_
    refine And.intro (by omega) ?_
    refine And.intro (fun c1 => ?_) (fun c1 => ?_)
    · have hi2 : i = C.2.1.length := by omega
      subst hi2
      rw [List.take_length]
      exact h
    · have hlt : i < C.2.1.length := by omega
      obtain ⟨q, hq⟩ := qg_some hlt
      have hP := (hC.2.2.2.1 i q hq).2.2.2.2
      have ih' := ih () hlt
      have hle := qg_placed_le (C.2.1.take i)
      rw [List.length_take] at hle
      rw [qg_take hq, qg_placed_snoc] at ih'
      cases ho : q.2.2.2.2 with
      | none =>
        rw [ho] at hP ih'
        refine sp_X11_ofQuote (p := 4) rfl rfl (by omega) hP ?_
        refine And.intro (by omega) (And.intro (by omega) ?_)
        exact ih'
      | some p =>
        rw [ho] at hP ih'
        refine sp_X11_ofQuote (p := 4) rfl rfl (by omega) hP.1 ?_
        refine And.intro (by omega) (And.intro (by omega) ?_)
        exact ih'
  exact hl 0 () (Nat.zero_le _)
def rq_part (w h c k : Nat) : Int := (2 * ((min k (3 - c) : Nat) : Int) - (k : Int)) * (h : Int)
theorem rq_part_succ (w h c k : Nat) : rq_part w h c (k + 1) = rq_part w h c k + (if c + k < 3 then (h : Int) else -(h : Int)) := by
  unfold rq_part
  by_cases hc : c + k < 3
  · rw [if_pos hc]
    have e : 2 * ((min (k + 1) (3 - c) : Nat) : Int) - ((k + 1 : Nat) : Int) = (2 * ((min k (3 - c) : Nat) : Int) - (k : Int)) + 1 := by omega
    rw [e, Int.add_mul, Int.one_mul]
  · rw [if_neg hc]
    have e : 2 * ((min (k + 1) (3 - c) : Nat) : Int) - ((k + 1 : Nat) : Int) = (2 * ((min k (3 - c) : Nat) : Int) - (k : Int)) + -1 := by omega
    rw [e, Int.add_mul, Int.neg_mul, Int.one_mul]
theorem rq_part_b {w h c k : Nat} (hk : k ≤ 3) (hh : h ≤ 6) : -18 ≤ rq_part w h c k ∧ rq_part w h c k ≤ 18 := by
  unfold rq_part
  exact qg_mul6 (by omega) hh
set_option maxRecDepth 100000 in
theorem sp_X11_balance {p : Nat} {x : Int} {C : qg_C} {M : mv_M} {Q : mv_R} (ex : x = (p : Int)) (hC : rq_C (M.1 24 0) C) (hw : C.2.1.length ≤ 8) (hwq : ∀ q ∈ C.2.1, qg_wQ q) (h : Q (some (.inl (qg_bal C.2.1 p))) M) : E_X11_balance [.inr (11, 0), .inl x] M Q := by
  subst ex
  refine ev_X11_balance ?_
  refine go_X11_balance [4] 60 ?_
  have e1 := hC.n1
  have hl : ∀ (i : Nat) (s : Unit), i ≤ C.2.1.length → ∀ o, J_X11_balance Q 4 [some (.inr (11, 0)), some (.inl (p : Int)), some (.inl (qg_leanS (C.2.1.take i) p)), some (.inl (i : Int)), o] [] M := by
    refine mv_loop C.2.1.length (fun i _ hi ih o => ?_)
    have hb := qg_leanS_b p (C.2.1.take i) (fun x hx => hwq x (List.mem_of_mem_take hx))
    rw [List.length_take] at hb
    have hmin : min i C.2.1.length = i := by omega
    rw [hmin] at hb
    refine go_X11_balance [4, 17] 60 ?_
    refine And.intro (by omega) ?_
    refine And.intro (fun c1 => ?_) (fun c1 => ?_)
    · have hi2 : i = C.2.1.length := by omega
      subst hi2
      rw [List.take_length] at hb ⊢
      refine sp_X11_apart (by omega) (by omega) ?_
      unfold qg_bal at h
      by_cases hz : 0 ≤ qg_leanS C.2.1 p
      · rw [if_pos hz] at h ⊢
        rw [Int.sub_zero]
        exact h
      · rw [if_neg hz] at h ⊢
        rw [Int.zero_sub]
        exact h
    · have hlt : i < C.2.1.length := by omega
      obtain ⟨q, hq⟩ := qg_some hlt
      have hwq1 := hwq q (List.mem_of_getElem? hq)
      have w1 := hwq1.1
      have w2 := hwq1.2.1
      have w3 := hwq1.2.2.1
      have w4 := hwq1.2.2.2.1
      have hr := hC.2.2.2.1 i q hq
      have hP := hr.2.2.2.2
      have ih' := ih () hlt
      rw [qg_take hq, qg_leanS_snoc] at ih'
      -- nothing is added
      have no : (∀ p', q.2.2.2.2 = some p' → p'.1 ≠ p) → J_X11_balance Q 17 [some (.inr (11, 0)), some (.inl (p : Int)), some (.inl (qg_leanS (C.2.1.take i) p)), some (.inl (i : Int)), some (.inl 0)] [] M := by
        intro hn
        have e0 : qg_leanQ p q = 0 := by
          unfold qg_leanQ
          cases ho : q.2.2.2.2 with
          | none => rfl
          | some p' => exact if_neg (hn p' ho)
        rw [e0, Int.add_zero] at ih'
        refine go_X11_balance [4] 60 ?_
        refine sp_X11_ofQuote (p := 2) rfl rfl (by omega) hr.2.2.1 ?_
        refine And.intro (fun c => absurd c (by omega)) (fun _ => ?_)
        refine sp_X11_isPlaced rfl (by omega) hr (fun p' hp' => mv_t ?_) (fun _ => mv_f ?_)
        · rw [hp'] at hP
          refine sp_X11_ofQuote (p := 5) rfl rfl (by omega) hP.2.1 ?_
          have := hn p' hp'
          refine And.intro (fun _ => ?_) (fun c => absurd c (by omega))
          refine And.intro (by omega) ?_
          exact ih' _
        · refine And.intro (by omega) ?_
          exact ih' _
      cases ho : q.2.2.2.2 with
      | none => exact no (fun p' hp' => by rw [ho] at hp'; cases hp')
      | some p' =>
        by_cases hpp : p'.1 = p
        · rw [ho] at hP
          have e6 : qg_leanQ p q = rq_part q.2.2.1 q.2.2.2.1 p'.2.1 q.2.2.1 := by unfold qg_leanQ; rw [ho]; exact if_pos hpp
          have hk : ∀ (k : Nat) (s : Unit), k ≤ q.2.2.1 → J_X11_balance Q 17 [some (.inr (11, 0)), some (.inl (p : Int)), some (.inl (qg_leanS (C.2.1.take i) p + rq_part q.2.2.1 q.2.2.2.1 p'.2.1 k)), some (.inl (i : Int)), some (.inl (k : Int))] [] M := by
            refine mv_loop q.2.2.1 (fun k _ hk ihk => ?_)
            refine go_X11_balance [4, 17] 60 ?_
            have hpb := rq_part_b (w := q.2.2.1) (h := q.2.2.2.1) (c := p'.2.1) (k := k) (by omega) w4
            have hp6 := hwq1.2.2.2.2 p' ho
            refine sp_X11_ofQuote (p := 2) rfl rfl (by omega) hr.2.2.1 ?_
            refine And.intro (fun c => ?_) (fun c => ?_)
            · have hk2 : k = q.2.2.1 := by omega
              rw [hk2, ← e6]
              refine And.intro (by omega) ?_
              exact ih' _
            · have ihk' := ihk () (by omega)
              rw [rq_part_succ, ← Int.add_assoc] at ihk'
              refine sp_X11_isPlaced rfl (by omega) hr (fun p2 hp2 => mv_t ?_) (fun z => by rw [ho] at z; cases z)
              refine sp_X11_ofQuote (p := 5) rfl rfl (by omega) hP.2.1 ?_
              refine And.intro (fun c => absurd c (by omega)) (fun _ => ?_)
              refine sp_X11_ofQuote (p := 6) rfl rfl (by omega) hP.2.2.1 ?_
              refine And.intro (by omega) ?_
              refine And.intro (fun c3 => ?_) (fun c3 => ?_)
              · refine sp_X11_ofQuote (p := 3) rfl rfl (by omega) hr.2.2.2.1 ?_
                rw [if_neg (by omega)] at ihk'
                refine And.intro (by omega) (And.intro (by omega) (And.intro (by omega) ?_))
                exact ihk'
              · refine sp_X11_ofQuote (p := 3) rfl rfl (by omega) hr.2.2.2.1 ?_
                rw [if_pos (by omega)] at ihk'
                refine And.intro (by omega) (And.intro (by omega) ?_)
                exact ihk'
          have h0 := hk 0 () (Nat.zero_le _)
          have ez : rq_part q.2.2.1 q.2.2.2.1 p'.2.1 0 = 0 := by unfold rq_part; simp
          rw [ez, Int.add_zero] at h0
          exact h0
        · exact no (fun p2 hp2 => by rw [ho] at hp2; cases hp2; exact hpp)
  exact hl 0 () (Nat.zero_le _) none
set_option maxRecDepth 100000 in
theorem sp_X11_unrest {C : qg_C} {M : mv_M} {Q : mv_R} (hC : rq_C (M.1 24 0) C) (hw : C.2.1.length ≤ 8) (hwq : ∀ q ∈ C.2.1, qg_wQ q) (h : Q (some (.inl (qg_unrest C.2.1))) M) : E_X11_unrest [.inr (11, 0)] M Q := by
  refine ev_X11_unrest ?_
  refine go_X11_unrest [] 60 ?_
  have b0 := qg_bal_b (p := 0) hw hwq
  have b1 := qg_bal_b (p := 1) hw hwq
  have b2 := qg_bal_b (p := 2) hw hwq
  refine sp_X11_balance (p := 0) rfl hC hw hwq ?_
  refine sp_X11_balance (p := 1) rfl hC hw hwq ?_
  refine And.intro (by omega) ?_
  refine sp_X11_balance (p := 2) rfl hC hw hwq ?_
  refine And.intro (by omega) ?_
  exact h
/-- a quote's place is written -/
def rf_put (n t k : Nat) : Prop := t = 24 ∧ 71 + 8 * n + 4 ≤ k ∧ k < 71 + 8 * n + 8
set_option maxRecDepth 100000 in
theorem sp_X11_put {n : Nat} {p : Nat × Nat × Nat} {x y z w : Int} {M : mv_M} {Q : mv_R} (ex : x = (n : Int)) (ey : y = (p.1 : Int)) (ez : z = (p.2.1 : Int)) (ew : w = (p.2.2 : Int)) (hn : n < 8)
    (h : ∀ M', rq_P (M'.1 24 0) (71 + 8 * n) (some p) → rr_of (rf_put n) M M' → Q none M') : E_X11_put [.inr (11, 0), .inl x, .inl y, .inl z, .inl w] M Q := by
  subst ex; subst ey; subst ez; subst ew
  refine ev_X11_put ?_
  refine go_X11_put [] 60 ?_
  refine sp_X11_setQuote (p := 4) rfl rfl (by omega) ?_
  refine sp_X11_setQuote (p := 5) rfl rfl (by omega) ?_
  refine sp_X11_setQuote (p := 6) rfl rfl (by omega) ?_
  refine sp_X11_setQuote (p := 7) rfl rfl (by omega) ?_
  refine h _ ⟨?_, ?_, ?_, ?_⟩ ((((rr_of.rf.up ?_).up ?_).up ?_).up ?_)
  · simp [mv_up]
  · simp [mv_up]
  · simp [mv_up]
  · simp [mv_up]
  all_goals (unfold rf_put; omega)
set_option maxRecDepth 100000 in
theorem sp_X11_fromModule {n m : Nat} {q : qg_Q} {p : Nat × Nat × Nat} {x y : Int} {M : mv_M} {Q : mv_R} (ex : x = (n : Int)) (ey : y = (m : Int)) (hn : n < 8) (hq : rq_Q (M.1 24 0) (71 + 8 * n) q) (hw : qg_wQ q) (hp : q.2.2.2.2 = some p)
    (h : Q (some (.inl ((max (qg_gap p.2.1 q.2.2.1 (m % 120 / 20) 1) (qg_gap p.2.2 q.2.2.2.1 (m % 20) 1) : Nat) : Int))) M) : E_X11_fromModule [.inr (11, 0), .inl x, .inl y] M Q := by
  subst ex; subst ey
  refine ev_X11_fromModule ?_
  refine go_X11_fromModule [] 60 ?_
  have hP := hq.2.2.2.2
  rw [hp] at hP
  have p2 := hw.2.2.2.2 _ hp
  have w1 := hw.1
  have w2 := hw.2.1
  have w3 := hw.2.2.1
  have w4 := hw.2.2.2.1
  refine And.intro (by omega) (And.intro (by omega) (And.intro (by omega) ?_))
  refine sp_X11_ofQuote (p := 6) rfl rfl (by omega) hP.2.2.1 ?_
  refine sp_X11_ofQuote (p := 2) rfl rfl (by omega) hq.2.2.1 ?_
  refine sp_X11_gap (f := p.2.1) (s := q.2.2.1) (o := m % 120 / 20) (os := 1) rfl rfl (by omega) rfl (by omega) (by omega) (by omega) (by omega) ?_
  refine sp_X11_ofQuote (p := 7) rfl rfl (by omega) hP.2.2.2 ?_
  refine sp_X11_ofQuote (p := 3) rfl rfl (by omega) hq.2.2.2.1 ?_
  refine sp_X11_gap (f := p.2.2) (s := q.2.2.2.1) (o := m % 20) (os := 1) rfl rfl (by omega) rfl (by omega) (by omega) (by omega) (by omega) ?_
  refine sp_X11_more ?_
  rw [show ((max (qg_gap p.2.1 q.2.2.1 (m % 120 / 20) 1) (qg_gap p.2.2 q.2.2.2.1 (m % 20) 1) : Nat) : Int) = max (qg_gap p.2.1 q.2.2.1 (m % 120 / 20) 1 : Int) (qg_gap p.2.2 q.2.2.2.1 (m % 20) 1 : Int) by omega] at h
  exact h
set_option maxRecDepth 100000 in
theorem sp_X11_between {n i : Nat} {q r : qg_Q} {p o : Nat × Nat × Nat} {x y : Int} {M : mv_M} {Q : mv_R} (ex : x = (n : Int)) (ey : y = (i : Int)) (hn : n < 8) (hi : i < 8) (hq : rq_Q (M.1 24 0) (71 + 8 * n) q) (hw : qg_wQ q) (hp : q.2.2.2.2 = some p) (hr : rq_Q (M.1 24 0) (71 + 8 * i) r) (hv : qg_wQ r) (ho : r.2.2.2.2 = some o)
    (h : Q (some (.inl (qg_qd q r p o : Int))) M) : E_X11_between [.inr (11, 0), .inl x, .inl y] M Q := by
  subst ex; subst ey
  refine ev_X11_between ?_
  refine go_X11_between [] 60 ?_
  have hP := hq.2.2.2.2
  rw [hp] at hP
  have hO := hr.2.2.2.2
  rw [ho] at hO
  have p2 := hw.2.2.2.2 _ hp
  have o2 := hv.2.2.2.2 _ ho
  have w1 := hw.1
  have w2 := hw.2.1
  have w3 := hw.2.2.1
  have w4 := hw.2.2.2.1
  have v1 := hv.1
  have v2 := hv.2.1
  have v3 := hv.2.2.1
  have v4 := hv.2.2.2.1
  refine sp_X11_ofQuote (p := 6) rfl rfl (by omega) hP.2.2.1 ?_
  refine sp_X11_ofQuote (p := 2) rfl rfl (by omega) hq.2.2.1 ?_
  refine sp_X11_ofQuote (p := 6) rfl rfl (by omega) hO.2.2.1 ?_
  refine sp_X11_ofQuote (p := 2) rfl rfl (by omega) hr.2.2.1 ?_
  refine sp_X11_gap rfl rfl rfl rfl (by omega) (by omega) (by omega) (by omega) ?_
  refine sp_X11_ofQuote (p := 7) rfl rfl (by omega) hP.2.2.2 ?_
  refine sp_X11_ofQuote (p := 3) rfl rfl (by omega) hq.2.2.2.1 ?_
  refine sp_X11_ofQuote (p := 7) rfl rfl (by omega) hO.2.2.2 ?_
  refine sp_X11_ofQuote (p := 3) rfl rfl (by omega) hr.2.2.2.1 ?_
  refine sp_X11_gap rfl rfl rfl rfl (by omega) (by omega) (by omega) (by omega) ?_
  refine sp_X11_more ?_
  unfold qg_qd at h
  rw [show ((max (qg_gap p.2.1 q.2.2.1 o.2.1 r.2.2.1) (qg_gap p.2.2 q.2.2.2.1 o.2.2 r.2.2.2.1) : Nat) : Int) = max (qg_gap p.2.1 q.2.2.1 o.2.1 r.2.2.1 : Int) (qg_gap p.2.2 q.2.2.2.1 o.2.2 r.2.2.2.1 : Int) by omega] at h
  exact h
