/-! The layout: cover, arrange, and what is read off it. -/
/-- a placed quote takes a module -/
def qg_cov (q : qg_Q) (m : Nat) : Bool := match q.2.2.2.2 with
  | none => false
  | some p => decide (m / 120 = p.1 ∧ p.2.1 ≤ m % 120 / 20 ∧ m % 120 / 20 < p.2.1 + q.2.2.1 ∧ p.2.2 ≤ m % 20 ∧ m % 20 < p.2.2 + q.2.2.2.1)
def qg_qT : List qg_Q → Nat → (Nat → Nat) → (Nat → Nat)
  | [], _, T => T
  | q :: qs, i, T => qg_qT qs (i + 1) (fun m => if qg_cov q m then 21 + i else T m)
set_option maxRecDepth 100000 in
theorem qg_qT_cons (q : qg_Q) (qs : List qg_Q) (i : Nat) (T : Nat → Nat) : qg_qT (q :: qs) i T = qg_qT qs (i + 1) (fun m => if qg_cov q m then 21 + i else T m) := rfl
set_option maxRecDepth 100000 in
theorem sp_X4_cover {lam a v : Nat} {q : qg_Q} {p : Nat × Nat × Nat} {T : Nat → Nat} {x : Int} {M : mv_M} {Q : mv_R} (hx : x = (v : Int)) (hq : qr_Q M a q) (hw : qg_wQ q) (hp : q.2.2.2.2 = some p) (hT : ∀ m, m < 360 → M.1 20 lam m = (T m : Int))
    (h : ∀ M', (∀ m, m < 360 → M'.1 20 lam m = ((if qg_cov q m then v else T m : Nat) : Int)) → mv_off (fun t j => t = 20 ∧ j = lam) M M' → Q none M') : E_X4_cover [.inr (4, lam), .inr (5, a), .inl x] M Q := by
  subst hx
  refine ev_X4_cover ?_
  refine go_X4_cover [41] 60 ?_
  obtain ⟨pg, cl, rw⟩ := p
  have hP := hq.2.2.2.2
  rw [hp] at hP
  have p2 := hw.2.2.2.2 _ hp
  have h5 : M.1 5 a 5 = (pg : Int) := hP.2.1
  have h6 : M.1 5 a 6 = (cl : Int) := hP.2.2.1
  have h7 : M.1 5 a 7 = (rw : Int) := hP.2.2.2
  have h2 : M.1 5 a 2 = (q.2.2.1 : Int) := hq.2.2.1
  have h3 : M.1 5 a 3 = (q.2.2.2.1 : Int) := hq.2.2.2.1
  have w1 := hw.1
  have w2 := hw.2.1
  have w3 := hw.2.2.1
  have w4 := hw.2.2.2.1
  have d1 : pg < 3 := p2.1
  have d2 : cl < 6 := p2.2.1
  have d3 : rw < 20 := p2.2.2
  refine And.intro (by omega) ?_
  refine And.intro (by omega) ?_
  refine And.intro (by omega) ?_
  refine And.intro (by omega) ?_
  obtain ⟨C, hC⟩ : ∃ C : Nat, C = min (cl + q.2.2.1) 6 := ⟨_, rfl⟩
  obtain ⟨R, hR⟩ : ∃ R : Nat, R = min (rw + q.2.2.2.1) 20 := ⟨_, rfl⟩
  have eC : min (M.1 5 a 6 + M.1 5 a 2) 6 - 1 = (C : Int) - 1 := by omega
  have eR : min (M.1 5 a 7 + M.1 5 a 3) 20 - 1 = (R : Int) - 1 := by omega
  rw [eC, eR]
  have hcov : ∀ m, m < 360 → (qg_cov q m = true ↔ m / 120 = pg ∧ cl ≤ m % 120 / 20 ∧ m % 120 / 20 < C ∧ rw ≤ m % 20 ∧ m % 20 < R) := by
    intro m hm
    unfold qg_cov
    rw [hp]
    simp only [decide_eq_true_eq]
    omega
  have outer : ∀ (c : Nat) (M1 : mv_M), c ≤ C → (cl ≤ c ∧ mv_off (fun t j => t = 20 ∧ j = lam) M M1 ∧ ∀ m, m < 360 → M1.1 20 lam m = ((if m / 120 = pg ∧ cl ≤ m % 120 / 20 ∧ m % 120 / 20 < c ∧ rw ≤ m % 20 ∧ m % 20 < R then v else T m : Nat) : Int)) →
      ∀ (o : Option mv_V) (x : Int), x = (c : Int) → J_X4_cover Q 41 [some (.inr (4, lam)), some (.inr (5, a)), some (.inl (v : Int)), some (.inl ((C : Int) - 1)), some (.inl ((R : Int) - 1)), some (.inl x), o] [] M1 := by
    refine mv_loop C (fun c M1 hc ih hI o x hx => ?_)
    subst hx
    obtain ⟨hcl, hO, hm⟩ := hI
    have q7 : M1.1 5 a 7 = (rw : Int) := (hO.1 _ _ _ (by omega)).trans h7
    refine go_X4_cover [53] 60 ?_
    refine And.intro (fun c1 => ?_) (fun c1 => ?_)
    · refine h M1 (fun m hm' => ?_) hO
      rw [hm m hm']
      have hh := hcov m hm'
      by_cases hz : qg_cov q m = true
      · rw [if_pos hz, if_pos (by have := hh.mp hz; omega)]
      · rw [if_neg hz, if_neg (fun z => hz (hh.mpr (by omega)))]
    · have hcC : c < C := by omega
      have inner : ∀ (r : Nat) (M2 : mv_M), r ≤ R → (rw ≤ r ∧ mv_off (fun t j => t = 20 ∧ j = lam) M M2 ∧ ∀ m, m < 360 → M2.1 20 lam m = ((if m / 120 = pg ∧ rw ≤ m % 20 ∧ ((cl ≤ m % 120 / 20 ∧ m % 120 / 20 < c ∧ m % 20 < R) ∨ (m % 120 / 20 = c ∧ m % 20 < r)) then v else T m : Nat) : Int)) →
          ∀ x : Int, x = (r : Int) → J_X4_cover Q 53 [some (.inr (4, lam)), some (.inr (5, a)), some (.inl (v : Int)), some (.inl ((C : Int) - 1)), some (.inl ((R : Int) - 1)), some (.inl (c : Int)), some (.inl x)] [] M2 := by
        refine mv_loop R (fun r M2 hr ih2 hI2 x hx => ?_)
        subst hx
        obtain ⟨hrl, hO2, hm2⟩ := hI2
        have q5 : M2.1 5 a 5 = (pg : Int) := (hO2.1 _ _ _ (by omega)).trans h5
        refine go_X4_cover [41, 53] 60 ?_
        refine And.intro (fun c2 => ?_) (fun c2 => ?_)
        · refine And.intro (by omega) ?_
          refine ih M2 hcC ⟨by omega, hO2, fun m hm' => ?_⟩ _ _ rfl
          rw [hm2 m hm']
          congr 2
          apply propext
          omega
        · have hrR : r < R := by omega
          refine sp_moduleAt q5 rfl rfl d1 (by omega) (by omega) ?_
          refine And.intro (by omega) ?_
          refine And.intro (by omega) ?_
          refine ih2 _ hrR ⟨by omega, hO2.up ⟨rfl, rfl⟩, fun m hm' => ?_⟩ _ rfl
          show mv_up M2.1 20 lam (pg * 120 + c * 20 + r) (v : Int) 20 lam m = _
          by_cases hz : m = pg * 120 + c * 20 + r
          · rw [hz, mv_up_eq, if_pos (by omega)]
          · rw [mv_up_ne (fun z => hz z.2.2), hm2 m hm']
            congr 2
            apply propext
            omega
      refine inner rw M1 (by omega) ⟨Nat.le_refl _, hO, fun m hm' => ?_⟩ _ q7
      rw [hm m hm']
      congr 2
      apply propext
      omega
  refine outer cl M (by omega) ⟨Nat.le_refl _, mv_off.rf, fun m hm' => ?_⟩ none _ h6
  rw [hT m hm', if_neg (by omega)]
def qg_layA : List qg_A → Nat → (Nat → Nat) → (Nat → Nat) × List (List Nat × Nat)
  | [], _, T => (T, [])
  | a :: as, i, T => ((qg_layA as (i + 1) (qg_pour i a.2.1 (360 - a.1) a.1 T [] 0 0).1).1, (qg_pour i a.2.1 (360 - a.1) a.1 T [] 0 0).2 :: (qg_layA as (i + 1) (qg_pour i a.2.1 (360 - a.1) a.1 T [] 0 0).1).2)
def qg_lay (C : qg_C) : (Nat → Nat) × List (List Nat × Nat) := qg_layA C.1 0 (qg_qT C.2.1 0 (fun _ => 0))
theorem qg_layA_len : ∀ (as : List qg_A) (i : Nat) (T : Nat → Nat), (qg_layA as i T).2.length = as.length
  | [], _, _ => rfl
  | a :: as, i, T => by
    show (_ :: (qg_layA as (i + 1) _).2).length = _
    rw [List.length_cons, qg_layA_len as]; rfl
theorem qg_lay_len (C : qg_C) : (qg_lay C).2.length = C.1.length := qg_layA_len _ _ _
def qr_L (M : mv_M) (lam : Nat) (C : qg_C) : Prop := M.1 4 lam 2 = (C.1.length : Int) ∧ (∀ m, m < 360 → M.1 20 lam m = ((qg_lay C).1 m : Int)) ∧ ∀ i a r, C.1[i]? = some a → (qg_lay C).2[i]? = some r → qr_F M (6 * lam + i) a.2.1 r
def qf_L (lam t j : Nat) : Prop := (t = 4 ∧ j = lam) ∨ (t = 20 ∧ j = lam) ∨ ((t = 2 ∨ t = 22 ∨ t = 23) ∧ 6 * lam ≤ j ∧ j < 6 * lam + 6)
theorem qr_L.fr {M M' : mv_M} {lam : Nat} {C : qg_C} (h : qr_L M lam C) (hw : C.1.length ≤ 6) (h0 : ∀ t j k, qf_L lam t j → M'.1 t j k = M.1 t j k) : qr_L M' lam C :=
  ⟨(h0 _ _ _ (Or.inl ⟨rfl, rfl⟩)).trans h.1, fun m hm => (h0 _ _ _ (Or.inr (Or.inl ⟨rfl, rfl⟩))).trans (h.2.1 m hm), fun i a r ha hr => (h.2.2 i a r ha hr).fr (fun t k ht => h0 _ _ _ (by
    have := (List.getElem?_eq_some_iff.mp ha).1
    unfold qf_L; omega))⟩
theorem qf_LC {lam c t j : Nat} (h : qf_L lam t j) : ¬ qf_C c t j := by
  unfold qf_L at h
  unfold qf_C
  omega
set_option maxRecDepth 100000 in
theorem sp_X4_arrange {lam c : Nat} {C : qg_C} {M : mv_M} {Q : mv_R} (hC : qr_C M c C) (hw : qg_wC C) (h : ∀ M', qr_L M' lam C → mv_off (qf_L lam) M M' → Q none M') : E_X4_arrange [.inr (4, lam), .inr (1, c)] M Q := by
  refine ev_X4_arrange ?_
  refine go_X4_arrange [10] 60 ?_
  have w1 := hw.1
  have w2 := hw.2.1
  refine sp_fill20 (by omega) (fun M0 hM0 hO0 => ?_)
  -- the articles
  have l2 : ∀ (i : Nat) (s : mv_M × (Nat → Nat)), i ≤ C.1.length → (mv_off (qf_L lam) M s.1 ∧ s.1.1 4 lam 2 = (C.1.length : Int) ∧ (∀ m, m < 360 → s.1.1 20 lam m = (s.2 m : Int)) ∧ qg_layA (C.1.drop i) i s.2 = ((qg_lay C).1, (qg_lay C).2.drop i) ∧ ∀ k a r, k < i → C.1[k]? = some a → (qg_lay C).2[k]? = some r → qr_F s.1 (6 * lam + k) a.2.1 r) →
      J_X4_arrange Q 60 [some (.inr (4, lam)), some (.inr (1, c)), some (.inl (i : Int))] [] s.1 := by
    refine mv_loop C.1.length (fun i s hi ih hI => ?_)
    obtain ⟨M1, T1⟩ := s
    obtain ⟨hO, e2, hm, hR, hk⟩ := hI
    dsimp only at hO e2 hm hR hk ⊢
    have hC1 : qr_C M1 c C := hC.fr hw (fun t j k hf => hO.1 t j k (fun z => qf_LC z hf))
    refine go_X4_arrange [60] 60 ?_
    refine And.intro (fun c1 => ?_) (fun c1 => ?_)
    · have hi2 : i = C.1.length := by omega
      subst hi2
      rw [List.drop_length] at hR
      have hR1 : T1 = (qg_lay C).1 := congrArg Prod.fst hR
      exact h M1 ⟨e2, fun m hm' => by rw [hm m hm', hR1], fun k a r ha hr => hk k a r (List.getElem?_eq_some_iff.mp ha).1 ha hr⟩ hO
    · have hlt : i < C.1.length := by omega
      obtain ⟨a, ha⟩ := qg_some hlt
      obtain ⟨r, hr⟩ := qg_some (show i < (qg_lay C).2.length by rw [qg_lay_len]; exact hlt)
      rw [qg_drop_cons ha, qg_drop_cons hr] at hR
      unfold qg_layA at hR
      have hR1 := congrArg Prod.fst hR
      have hR2 := congrArg Prod.snd hR
      dsimp only at hR1 hR2
      injection hR2 with hR3 hR4
      refine And.intro (by omega) ?_
      refine And.intro (by omega) ?_
      refine sp_X2_pour (A := a) (T := T1) (i := i) (hC1.2.2.1 i a ha) (hw.2.2.1 a (List.mem_of_getElem? ha)) (by omega) hm rfl (fun M2 hm2 hF2 hO2 => ?_)
      refine And.intro (by omega) ?_
      rw [hR3] at hF2
      have ne : ∀ {t j : Nat} (k : Nat), ¬ (((t = 2 ∨ t = 22 ∨ t = 23) ∧ j = 6 * lam + i) ∨ (t = 20 ∧ j = lam)) → M2.1 t j k = M1.1 t j k := fun k hn => hO2.1 _ _ k hn
      refine ih (M2, _) hlt ⟨hO.tr (hO2.wk (fun t j z => ?_)), ?_, hm2, ?_, fun k b s hki hb hs => ?_⟩
      · rcases z with ⟨z1, z2⟩ | ⟨z1, z2⟩
        · have z2 : j = 6 * lam + i := z2
          unfold qf_L; omega
        · exact Or.inr (Or.inl ⟨z1, z2⟩)
      · show M2.1 4 lam 2 = _
        rw [ne 2 (by omega)]; exact e2
      · exact Prod.ext hR1 hR4
      · by_cases hki2 : k = i
        · subst hki2
          rw [ha] at hb
          rw [hr] at hs
          cases hb
          cases hs
          exact hF2
        · exact (hk k b s (by omega) hb hs).fr (fun t k ht => ne k (by omega))
  -- the quotes
  have l1 : ∀ (i : Nat) (s : mv_M × (Nat → Nat)), i ≤ C.2.1.length → (mv_off (qf_L lam) M s.1 ∧ (∀ m, m < 360 → s.1.1 20 lam m = (s.2 m : Int)) ∧ qg_qT (C.2.1.drop i) i s.2 = qg_qT C.2.1 0 (fun _ => 0)) →
      J_X4_arrange Q 10 [some (.inr (4, lam)), some (.inr (1, c)), some (.inl (i : Int))] [] s.1 := by
    refine mv_loop C.2.1.length (fun i s hi ih hI => ?_)
    obtain ⟨M1, T1⟩ := s
    obtain ⟨hO, hm, hR⟩ := hI
    dsimp only at hO hm hR ⊢
    have hC1 : qr_C M1 c C := hC.fr hw (fun t j k hf => hO.1 t j k (fun z => qf_LC z hf))
    have e3 := hC1.1
    have e4 := hC1.2.1
    refine go_X4_arrange [10, 60] 60 ?_
    refine And.intro (fun c1 => ?_) (fun c1 => ?_)
    · have hi2 : i = C.2.1.length := by omega
      subst hi2
      rw [List.drop_length] at hR
      have hR : T1 = qg_qT C.2.1 0 (fun _ => 0) := hR
      refine l2 0 (_, T1) (Nat.zero_le _) ⟨hO.up (Or.inl ⟨rfl, rfl⟩), ?_, fun m hm' => ?_, ?_, fun k a r hk => absurd hk (by omega)⟩
      · simpa [mv_up] using e3
      · simpa [mv_up] using hm m hm'
      · rw [hR]; rfl
    · have hlt : i < C.2.1.length := by omega
      obtain ⟨q, hq⟩ := qg_some hlt
      have hqr := hC1.2.2.2.1 i q hq
      have hP := hqr.2.2.2.2
      rw [qg_drop_cons hq, qg_qT_cons] at hR
      refine And.intro (by omega) ?_
      refine And.intro (fun c2 => ?_) (fun c2 => ?_)
      · refine And.intro (by omega) ?_
        cases ho : q.2.2.2.2 with
        | none =>
          refine ih (M1, T1) hlt ⟨hO, hm, ?_⟩
          have e : (fun m => if qg_cov q m then 21 + i else T1 m) = T1 := by
            funext m
            have : qg_cov q m = false := by unfold qg_cov; rw [ho]
            rw [this]; rfl
          rw [e] at hR
          exact hR
        | some p =>
          rw [ho] at hP
          have : M1.1 5 (8 * c + (i : Int).toNat) 4 = 1 := hP.1
          omega
      · refine And.intro (by omega) ?_
        refine And.intro (by omega) ?_
        cases ho : q.2.2.2.2 with
        | none =>
          rw [ho] at hP
          exact absurd hP c2
        | some p =>
          refine sp_X4_cover (v := 21 + i) (T := T1) (by omega) hqr (hw.2.2.2.1 q (List.mem_of_getElem? hq)).1 ho hm (fun M2 hm2 hO2 => ?_)
          refine And.intro (by omega) ?_
          exact ih (M2, _) hlt ⟨hO.tr (hO2.wk (fun t j z => Or.inr (Or.inl z))), hm2, hR⟩
  refine l1 0 (M0, fun _ => 0) (Nat.zero_le _) ⟨hO0.wk (fun t j z => Or.inr (Or.inl z)), fun m hm => by simpa using hM0 m hm, rfl⟩
