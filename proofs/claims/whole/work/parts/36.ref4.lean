/-! The reference: the whole layout, and what is read off it. -/
def rf_lay (t _k : Nat) : Prop := t = 28 ∨ t = 29 ∨ t = 30 ∨ t = 31
def rq_L (M : mv_M) (C : qg_C) : Prop := (∀ m, m < 360 → M.1 28 0 m = ((qg_lay C).1 m : Int)) ∧ ∀ (i : Nat) (a : qg_A) (r : List Nat × Nat), C.1[i]? = some a → (qg_lay C).2[i]? = some r → rq_F M i a.2.1 r
theorem rf_la_lay {i t k : Nat} (h : rf_la i t k) : rf_lay t k := by
  unfold rf_la at h
  unfold rf_lay
  omega
theorem rq_L.fr {M M' : mv_M} {C : qg_C} (h : rq_L M C) (h0 : ∀ t k, rf_lay t k → M'.1 t 0 k = M.1 t 0 k) : rq_L M' C :=
  ⟨fun m hm => (h0 28 m (Or.inl rfl)).trans (h.1 m hm), fun i a r ha hr => (h.2 i a r ha hr).fr (fun t k ht _ => h0 t k (rf_la_lay ht))⟩
theorem rq_L.at {M : mv_M} {C : qg_C} (h : rq_L M C) {i : Nat} (hi : i < C.1.length) : rq_F M i (qg_len C i) (qg_ls C i, qg_ju C i) := by
  obtain ⟨a, ha, hr⟩ := qg_lay_at hi
  rw [qg_len_at ha]
  exact h.2 i a _ ha hr
theorem rq_L.ov {M : mv_M} {C : qg_C} (h : rq_L M C) {i : Nat} (hi : i < C.1.length) : M.1 30 0 i = (qg_ov C i : Int) := by
  have hF := h.at hi
  have h1 : (qg_ls C i).length ≤ qg_len C i := hF.1.1
  have h2 : M.1 30 0 i = (qg_len C i : Int) - ((qg_ls C i).length : Int) := hF.2.1
  unfold qg_ov
  omega
theorem rq_F.line {M : mv_M} {i len l : Nat} {r : List Nat × Nat} (h : rq_F M i len r) (hl : l < len) : M.1 29 0 (200 * i + l) = qg_oi (r.1[l]?) := by
  by_cases hc : l < r.1.length
  · rw [List.getElem?_eq_getElem hc]
    exact h.2.2.2.1 l _ (List.getElem?_eq_getElem hc)
  · rw [List.getElem?_eq_none (by omega)]
    exact h.2.2.2.2 l (by omega) hl
theorem rq_C.of {M M1 : mv_M} {P : Nat → Nat → Prop} {C : qg_C} (h : rq_C (M.1 24 0) C) (hw : qg_wC C) (hO : rr_of P M M1) (hp : ∀ k, ¬ P 24 k) : rq_C (M1.1 24 0) C := h.fr hw (fun k _ => hO.1 24 0 k (hp k))
set_option maxRecDepth 100000 in
theorem sp_X11_layOut {C : qg_C} {M : mv_M} {Q : mv_R} (hC : rq_C (M.1 24 0) C) (hw : qg_wC C) (hin : qg_inC C) (h : ∀ M', rq_L M' C → rr_of rf_lay M M' → Q none M') : E_X11_layOut [.inr (11, 0)] M Q := by
  refine ev_X11_layOut ?_
  refine go_X11_layOut [2] 60 ?_
  have w1 := hw.1
  have w2 := hw.2.1
  have h24 : ∀ k, ¬ rf_lay 24 k := fun k z => by unfold rf_lay at z; omega
  have l3 : ∀ (i : Nat) (s : mv_M × (Nat → Nat)), i ≤ C.1.length → (rr_of rf_lay M s.1 ∧ (∀ m, m < 360 → s.1.1 28 0 m = (s.2 m : Int)) ∧ qg_layA (C.1.drop i) i s.2 = ((qg_lay C).1, (qg_lay C).2.drop i) ∧ ∀ k a r, k < i → C.1[k]? = some a → (qg_lay C).2[k]? = some r → rq_F s.1 k a.2.1 r) →
      J_X11_layOut Q 55 [some (.inr (11, 0)), some (.inl (i : Int))] [] s.1 := by
    refine mv_loop C.1.length (fun i s hi ih hI => ?_)
    obtain ⟨M1, T1⟩ := s
    obtain ⟨hO, hm, hR, hk⟩ := hI
    dsimp only at hO hm hR hk ⊢
    have hC1 := hC.of hw hO h24
    have e0 := hC1.n0
    refine go_X11_layOut [55] 60 ?_
    refine And.intro (by omega) ?_
    refine And.intro (fun c1 => ?_) (fun c1 => ?_)
    · have hi2 : i = C.1.length := by omega
      subst hi2
      rw [List.drop_length] at hR
      have hR1 : T1 = (qg_lay C).1 := congrArg Prod.fst hR
      exact h M1 ⟨fun m hm' => by rw [hm m hm', hR1], fun k a r ha hr => hk k a r (List.getElem?_eq_some_iff.mp ha).1 ha hr⟩ hO
    · have hlt : i < C.1.length := by omega
      obtain ⟨a, ha⟩ := qg_some hlt
      obtain ⟨r, hr⟩ := qg_some (show i < (qg_lay C).2.length by rw [qg_lay_len]; exact hlt)
      rw [qg_drop_cons ha, qg_drop_cons hr] at hR
      unfold qg_layA at hR
      have hR1 := congrArg Prod.fst hR
      have hR2 := congrArg Prod.snd hR
      dsimp only at hR1 hR2
      injection hR2 with hR3 hR4
      refine sp_X11_layArticle (A := a) (T := T1) (i := i) rfl (hC1.2.2.1 i a ha) (hw.2.2.1 a (List.mem_of_getElem? ha)) (by omega) hm rfl (fun M2 hm2 hF2 hO2 => ?_)
      refine And.intro (by omega) ?_
      rw [hR3] at hF2
      refine ih (M2, _) hlt ⟨hO.tr (hO2.wk (fun t k => rf_la_lay)), hm2, Prod.ext hR1 hR4, fun k b s hki hb hs => ?_⟩
      by_cases hki2 : k = i
      · subst hki2
        rw [ha] at hb
        rw [hr] at hs
        cases hb
        cases hs
        exact hF2
      · exact (hk k b s (by omega) hb hs).fr (fun t k2 ht ht2 => hO2.1 t 0 k2 (by unfold rf_la at ht ⊢; omega))
  have l2 : ∀ (i : Nat) (s : mv_M × (Nat → Nat)), i ≤ C.2.1.length → (rr_of rf_lay M s.1 ∧ (∀ m, m < 360 → s.1.1 28 0 m = (s.2 m : Int)) ∧ qg_qT (C.2.1.drop i) i s.2 = qg_qT C.2.1 0 (fun _ => 0)) →
      J_X11_layOut Q 24 [some (.inr (11, 0)), some (.inl (i : Int))] [] s.1 := by
    refine mv_loop C.2.1.length (fun i s hi ih hI => ?_)
    obtain ⟨M1, T1⟩ := s
    obtain ⟨hO, hm, hR⟩ := hI
    dsimp only at hO hm hR ⊢
    have hC1 := hC.of hw hO h24
    have e1 := hC1.n1
    refine go_X11_layOut [24, 55] 60 ?_
    refine And.intro (by omega) ?_
    refine And.intro (fun c1 => ?_) (fun c1 => ?_)
    · have hi2 : i = C.2.1.length := by omega
      subst hi2
      rw [List.drop_length] at hR
      have hR : T1 = qg_qT C.2.1 0 (fun _ => 0) := hR
      refine l3 0 (M1, T1) (Nat.zero_le _) ⟨hO, hm, ?_, fun k a r hk => absurd hk (by omega)⟩
      show qg_layA C.1 0 T1 = _
      rw [hR]; rfl
    · have hlt : i < C.2.1.length := by omega
      obtain ⟨q, hq⟩ := qg_some hlt
      have hqr := hC1.2.2.2.1 i q hq
      rw [qg_drop_cons hq, qg_qT_cons] at hR
      refine sp_X11_isPlaced rfl (by omega) hqr (fun p hp => mv_t ?_) (fun ho => mv_f ?_)
      · refine sp_X11_layQuote (T := T1) rfl (by omega) hqr (hw.2.2.2.1 q (List.mem_of_getElem? hq)).1 hp (hin q (List.mem_of_getElem? hq)) hm (fun M2 hm2 hO2 => ?_)
        refine And.intro (by omega) ?_
        exact ih (M2, _) hlt ⟨hO.tr (hO2.wk (fun t k z => Or.inl z)), hm2, hR⟩
      · refine And.intro (by omega) ?_
        refine ih (M1, T1) hlt ⟨hO, hm, ?_⟩
        have e : (fun m => if qg_cov q m then 21 + i else T1 m) = T1 := by
          funext m
          have : qg_cov q m = false := by unfold qg_cov; rw [ho]
          rw [this]; rfl
        rw [e] at hR
        exact hR
  have l1 : ∀ (i : Nat) (M1 : mv_M), i ≤ 360 → (rr_of rf_lay M M1 ∧ ∀ m, m < i → M1.1 28 0 m = 0) → J_X11_layOut Q 2 [some (.inr (11, 0)), some (.inl (i : Int))] [] M1 := by
    refine mv_loop 360 (fun i M1 hi ih hI => ?_)
    obtain ⟨hO, hm⟩ := hI
    refine go_X11_layOut [2, 24] 60 ?_
    refine And.intro (fun c1 => ?_) (fun c1 => ?_)
    · refine l2 0 (M1, fun _ => 0) (Nat.zero_le _) ⟨hO, fun m hm' => ?_, rfl⟩
      exact hm m (by omega)
    · refine And.intro (by omega) (And.intro (by omega) ?_)
      have ei : (i : Int).toNat = i := by omega
      rw [ei]
      refine ih _ (by omega) ⟨hO.up (Or.inl rfl), fun m hm' => ?_⟩
      by_cases e : m = i
      · subst e; exact mv_eqp
      · exact (mv_nep (by omega)).trans (hm m (by omega))
  exact l1 0 M (by omega) ⟨rr_of.rf, fun m hm => absurd hm (by omega)⟩
def rf_note (t _k : Nat) : Prop := 28 ≤ t
set_option maxRecDepth 100000 in
theorem sp_X11_noteOver {C : qg_C} {M : mv_M} {Q : mv_R} (hC : rq_C (M.1 24 0) C) (hw : qg_wC C) (hin : qg_inC C) (h : ∀ M', (∀ i, i < C.1.length → M'.1 32 0 i = (qg_ov C i : Int)) → rr_of rf_note M M' → Q none M') : E_X11_noteOver [.inr (11, 0)] M Q := by
  refine ev_X11_noteOver ?_
  refine go_X11_noteOver [6] 60 ?_
  have w1 := hw.1
  refine sp_X11_layOut hC hw hin (fun M0 hL0 hO0 => ?_)
  have hO0' : rr_of rf_note M M0 := hO0.wk (fun t k z => by unfold rf_lay at z; unfold rf_note; omega)
  have hl : ∀ (i : Nat) (M1 : mv_M), i ≤ C.1.length → (rr_of rf_note M M1 ∧ rq_L M1 C ∧ ∀ j, j < i → M1.1 32 0 j = (qg_ov C j : Int)) → J_X11_noteOver Q 6 [some (.inr (11, 0)), some (.inl (i : Int))] [] M1 := by
    refine mv_loop C.1.length (fun i M1 hi ih hI => ?_)
    obtain ⟨hO, hL, hm⟩ := hI
    have e0 := (hC.of hw hO (fun k z => by unfold rf_note at z; omega)).n0
    refine go_X11_noteOver [6] 60 ?_
    refine And.intro (by omega) ?_
    refine And.intro (fun c1 => ?_) (fun c1 => ?_)
    · exact h M1 (fun j hj => hm j (by omega)) hO
    · refine And.intro (by omega) (And.intro (by omega) (And.intro (by omega) ?_))
      have ei : (i : Int).toNat = i := by omega
      rw [ei]
      refine ih _ (by omega) ⟨hO.up (by unfold rf_note; omega), hL.fr (fun t k ht => mv_nep (by unfold rf_lay at ht; omega)), fun j hj => ?_⟩
      by_cases e : j = i
      · subst e; exact mv_eqp.trans (hL.ov (by omega))
      · exact (mv_nep (by omega)).trans (hm j (by omega))
  exact hl 0 M0 (by omega) ⟨hO0', hL0, fun j hj => absurd hj (by omega)⟩
/-- a truth that is gathered -/
def rq_bx (P : Nat → Prop) (i : Nat) (x : Int) : Prop := (x = 1 ∧ ∃ j, j < i ∧ P j) ∨ (x = 0 ∧ ∀ j, j < i → ¬ P j)
theorem rq_bx.z {P : Nat → Prop} : rq_bx P 0 0 := Or.inr ⟨rfl, fun j hj => absurd hj (by omega)⟩
theorem rq_bx.keep {P : Nat → Prop} {i : Nat} {x : Int} (h : rq_bx P i x) (hx : ¬ x = 0) : rq_bx P (i + 1) 1 := by
  rcases h with ⟨_, j, hj, hp⟩ | ⟨h, _⟩
  · exact Or.inl ⟨rfl, j, by omega, hp⟩
  · exact absurd h hx
theorem rq_bx.yes {P : Nat → Prop} {i : Nat} (hp : P i) : rq_bx P (i + 1) 1 := Or.inl ⟨rfl, i, by omega, hp⟩
theorem rq_bx.no {P : Nat → Prop} {i : Nat} {x : Int} (h : rq_bx P i x) (hx : x = 0) (hp : ¬ P i) : rq_bx P (i + 1) 0 := by
  rcases h with ⟨h, _⟩ | ⟨_, h⟩
  · omega
  · refine Or.inr ⟨rfl, fun j hj => ?_⟩
    by_cases e : j = i
    · subst e; exact hp
    · exact h j (by omega)
set_option maxRecDepth 100000 in
theorem sp_X11_isMoreOver {C B : qg_C} {M : mv_M} {Q : mv_R} (hC : rq_C (M.1 24 0) C) (hw : qg_wC C) (hL : rq_L M C) (hB : ∀ i, i < C.1.length → M.1 32 0 i = (qg_ov B i : Int)) (h1 : qg_more C B → Q (some (.inl 1)) M) (h0 : ¬ qg_more C B → Q (some (.inl 0)) M) : E_X11_isMoreOver [.inr (11, 0)] M Q := by
  refine ev_X11_isMoreOver ?_
  refine go_X11_isMoreOver [4] 60 ?_
  have w1 := hw.1
  have e0 := hC.n0
  have hl : ∀ (i : Nat) (x : Int), i ≤ C.1.length → rq_bx (fun j => qg_ov B j < qg_ov C j) i x → J_X11_isMoreOver Q 4 [some (.inr (11, 0)), some (.inl x), some (.inl (i : Int))] [] M := by
    refine mv_loop C.1.length (fun i x hi ih hI => ?_)
    have yes : i < C.1.length → rq_bx (fun j => qg_ov B j < qg_ov C j) (i + 1) 1 → J_X11_isMoreOver Q 33 [some (.inr (11, 0)), some (.inl x), some (.inl (i : Int))] [] M := by
      intro hlt hb
      refine go_X11_isMoreOver [4] 60 ?_
      exact And.intro (by omega) (ih 1 hlt hb)
    refine go_X11_isMoreOver [4, 33] 60 ?_
    refine And.intro (by omega) ?_
    refine And.intro (fun c1 => ?_) (fun c1 => ?_)
    · rcases hI with ⟨rfl, j, hj, hp⟩ | ⟨rfl, hn⟩
      · exact And.intro (Or.inr rfl) (h1 ⟨j, by omega, hp⟩)
      · exact And.intro (Or.inl rfl) (h0 (fun ⟨j, hj, hp⟩ => hn j (by omega) hp))
    · have hlt : i < C.1.length := by omega
      refine And.intro (fun c2 => yes hlt (hI.keep c2)) (fun c2 => ?_)
      have ei : (i : Int).toNat = i := by omega
      have a1 := hL.ov hlt
      have a2 := hB i hlt
      refine And.intro (by omega) (And.intro (by omega) ?_)
      rw [ei, a1, a2]
      refine And.intro (fun c3 => ?_) (fun c3 => yes hlt (rq_bx.yes (by omega)))
      exact And.intro (by omega) (ih 0 hlt (hI.no c2 (by omega)))
  exact hl 0 0 (by omega) rq_bx.z
theorem qg_onp_pos {p : Nat} {ls : List Nat} : 0 < qg_onp p ls ↔ ∃ (j m : Nat), ls[j]? = some m ∧ m / 120 = p := by
  unfold qg_onp
  rw [List.length_pos_iff_exists_mem]
  constructor
  · rintro ⟨m, hm⟩
    obtain ⟨h1, h2⟩ := List.mem_filter.mp hm
    obtain ⟨j, hj⟩ := List.getElem?_of_mem h1
    exact ⟨j, m, hj, by simpa using h2⟩
  · rintro ⟨j, m, hj, hm⟩
    exact ⟨m, List.mem_filter.mpr ⟨List.mem_of_getElem? hj, by simpa using hm⟩⟩
set_option maxRecDepth 100000 in
theorem sp_X11_hasLineOn {a p : Nat} {A : qg_A} {r : List Nat × Nat} {x y : Int} {M : mv_M} {Q : mv_R} (ex : x = (a : Int)) (ey : y = (p : Int)) (ha : a < 6) (hA : rq_A (M.1 24 0) (5 + 11 * a) A) (hF : rq_F M a A.2.1 r) (h1 : 0 < qg_onp p r.1 → Q (some (.inl 1)) M) (h0 : ¬ 0 < qg_onp p r.1 → Q (some (.inl 0)) M) : E_X11_hasLineOn [.inr (11, 0), .inl x, .inl y] M Q := by
  subst ex; subst ey
  refine ev_X11_hasLineOn ?_
  refine go_X11_hasLineOn [5] 60 ?_
  have w1 := hF.1
  have hl : ∀ (i : Nat) (x : Int), i ≤ A.2.1 → rq_bx (fun j => ∃ m, r.1[j]? = some m ∧ m / 120 = p) i x → ∀ o, J_X11_hasLineOn Q 5 [some (.inr (11, 0)), some (.inl (a : Int)), some (.inl (p : Int)), some (.inl x), some (.inl (i : Int)), o] [] M := by
    refine mv_loop A.2.1 (fun i x hi ih hI o => ?_)
    have yes : ∀ o, i < A.2.1 → rq_bx (fun j => ∃ m, r.1[j]? = some m ∧ m / 120 = p) (i + 1) 1 → J_X11_hasLineOn Q 51 [some (.inr (11, 0)), some (.inl (a : Int)), some (.inl (p : Int)), some (.inl x), some (.inl (i : Int)), o] [] M := by
      intro o hlt hb
      refine go_X11_hasLineOn [5] 60 ?_
      exact And.intro (by omega) (ih 1 hlt hb _)
    have no : ∀ o, i < A.2.1 → rq_bx (fun j => ∃ m, r.1[j]? = some m ∧ m / 120 = p) (i + 1) 0 → J_X11_hasLineOn Q 55 [some (.inr (11, 0)), some (.inl (a : Int)), some (.inl (p : Int)), some (.inl x), some (.inl (i : Int)), o] [] M := by
      intro o hlt hb
      refine go_X11_hasLineOn [5] 60 ?_
      exact And.intro (by omega) (ih 0 hlt hb _)
    refine go_X11_hasLineOn [5, 51, 55] 60 ?_
    refine sp_X11_of (p := 1) rfl rfl (by omega) hA.2.1 ?_
    refine And.intro (fun c1 => ?_) (fun c1 => ?_)
    · rcases hI with ⟨rfl, j, hj, m, hm, hp⟩ | ⟨rfl, hn⟩
      · exact And.intro (Or.inr rfl) (h1 (qg_onp_pos.mpr ⟨j, m, hm, hp⟩))
      · refine And.intro (Or.inl rfl) (h0 (fun z => ?_))
        obtain ⟨j, m, hm, hp⟩ := qg_onp_pos.mp z
        have := (List.getElem?_eq_some_iff.mp hm).1
        exact hn j (by omega) ⟨m, hm, hp⟩
    · have hlt : i < A.2.1 := by omega
      refine And.intro (by omega) (And.intro (by omega) (And.intro (by omega) ?_))
      have ei : (200 * (a : Int) + (i : Int)).toNat = 200 * a + i := by omega
      rw [ei, hF.line hlt]
      refine And.intro (fun c2 => yes _ hlt (hI.keep c2)) (fun c2 => ?_)
      cases hm : r.1[i]? with
      | none =>
        refine And.intro (fun _ => no _ hlt (hI.no c2 ?_)) (fun c3 => absurd rfl c3)
        rintro ⟨m, h2, _⟩
        rw [hm] at h2
        cases h2
      | some m =>
        have e : qg_oi (some m) = (m : Int) := rfl
        rw [e]
        refine And.intro (fun c3 => absurd c3 (by omega)) (fun _ => ?_)
        refine And.intro (by omega) ?_
        refine And.intro (fun c4 => no _ hlt (hI.no c2 ?_)) (fun c4 => yes _ hlt (rq_bx.yes ⟨m, hm, by omega⟩))
        rintro ⟨m2, h2, h3⟩
        rw [hm] at h2
        cases h2
        omega
  exact hl 0 0 (by omega) rq_bx.z none
set_option maxRecDepth 100000 in
theorem sp_X11_moduleOf {n : Nat} {q : qg_Q} {C : qg_C} {x : Int} {M : mv_M} {Q : mv_R} (ex : x = (n : Int)) (hC : rq_C (M.1 24 0) C) (hw : qg_wC C) (hL : rq_L M C) (hq : C.2.1[n]? = some q) (h : Q (some (.inl (qg_oi (qg_sent C q.1 q.2.1)))) M) : E_X11_moduleOf [.inr (11, 0), .inl x] M Q := by
  subst ex
  refine ev_X11_moduleOf ?_
  refine go_X11_moduleOf [] 60 ?_
  have hn := (List.getElem?_eq_some_iff.mp hq).1
  have w2 := hw.2.1
  have w1 := hw.1
  obtain ⟨A, hA, hs⟩ := (hw.2.2.2.1 q (List.mem_of_getElem? hq)).2
  have hwA := hw.2.2.1 A (List.mem_of_getElem? hA)
  have ha := (List.getElem?_eq_some_iff.mp hA).1
  have h8 := hwA.2.2.2.1
  have hr := hC.2.2.2.1 n q hq
  obtain ⟨l, hl⟩ := qg_some hs
  have hll := hwA.2.2.2.2 l (List.mem_of_getElem? hl)
  have h200 := hwA.2.2.1
  refine sp_X11_ofQuote (p := 0) rfl rfl (by omega) hr.1 ?_
  refine And.intro (by omega) ?_
  refine sp_X11_ofQuote (p := 1) rfl rfl (by omega) hr.2.1 ?_
  refine And.intro (by omega) ?_
  refine sp_X11_of (a := q.1) (p := 3 + q.2.1) rfl (by omega) (by omega) ((hC.2.2.1 q.1 A hA).2.2.2 _ l hl) ?_
  refine And.intro (by omega) (And.intro (by omega) ?_)
  have e : qg_sent C q.1 q.2.1 = (qg_ls C q.1)[l]? := by
    unfold qg_sent
    rw [hA]
    show (A.2.2[q.2.1]?).bind _ = _
    rw [hl]; rfl
  have hF := hL.at ha
  rw [qg_len_at hA] at hF
  have hv := hF.line hll
  rw [e] at h
  have ei : 200 * q.1 + l = (200 * (q.1 : Int) + (l : Int)).toNat := by omega
  rw [ei] at hv
  have hv : M.1 29 0 (200 * (q.1 : Int) + (l : Int)).toNat = qg_oi ((qg_ls C q.1)[l]?) := hv
  rw [← hv] at h
  exact h
set_option maxRecDepth 100000 in
theorem sp_X11_fromSentence {n : Nat} {q : qg_Q} {p : Nat × Nat × Nat} {C : qg_C} {x : Int} {M : mv_M} {Q : mv_R} (ex : x = (n : Int)) (hC : rq_C (M.1 24 0) C) (hw : qg_wC C) (hL : rq_L M C) (hq : C.2.1[n]? = some q) (hp : q.2.2.2.2 = some p) (h : Q (some (.inl (qg_oi (qg_dist C q)))) M) : E_X11_fromSentence [.inr (11, 0), .inl x] M Q := by
  subst ex
  refine ev_X11_fromSentence ?_
  refine go_X11_fromSentence [] 60 ?_
  have hn := (List.getElem?_eq_some_iff.mp hq).1
  have w2 := hw.2.1
  have hr := hC.2.2.2.1 n q hq
  have hP := hr.2.2.2.2
  rw [hp] at hP
  refine sp_X11_moduleOf rfl hC hw hL hq ?_
  unfold qg_dist at h
  rw [hp] at h
  cases hm : qg_sent C q.1 q.2.1 with
  | none =>
    rw [hm] at h
    exact And.intro (fun _ => h) (fun c => absurd rfl c)
  | some m =>
    rw [hm] at h
    have e : qg_oi (some m) = (m : Int) := rfl
    rw [e]
    refine And.intro (fun c => absurd c (by omega)) (fun _ => ?_)
    refine And.intro (by omega) ?_
    refine sp_X11_ofQuote (p := 5) rfl rfl (by omega) hP.2.1 ?_
    have h : Q (some (.inl (qg_oi (if m / 120 = p.1 then some (max (qg_gap p.2.1 q.2.2.1 (m % 120 / 20) 1) (qg_gap p.2.2 q.2.2.2.1 (m % 20) 1)) else none)))) M := h
    refine And.intro (fun c => ?_) (fun c => ?_)
    · rw [if_pos (by omega)] at h
      exact sp_X11_fromModule rfl rfl (by omega) hr (hw.2.2.2.1 q (List.mem_of_getElem? hq)).1 hp h
    · rw [if_neg (by omega)] at h
      exact h
set_option maxRecDepth 100000 in
theorem sp_X11_isWrongFromSentence {n : Nat} {q : qg_Q} {p : Nat × Nat × Nat} {C : qg_C} {x : Int} {M : mv_M} {Q : mv_R} (ex : x = (n : Int)) (hC : rq_C (M.1 24 0) C) (hw : qg_wC C) (hL : rq_L M C) (hq : C.2.1[n]? = some q) (hp : q.2.2.2.2 = some p) (h1 : qg_bad C q → Q (some (.inl 1)) M) (h0 : ¬ qg_bad C q → Q (some (.inl 0)) M) : E_X11_isWrongFromSentence [.inr (11, 0), .inl x] M Q := by
  subst ex
  refine ev_X11_isWrongFromSentence ?_
  refine go_X11_isWrongFromSentence [] 60 ?_
  have e2 := hC.n2
  have e3 := hC.n3
  refine sp_X11_fromSentence rfl hC hw hL hq hp ?_
  cases hd : qg_dist C q with
  | none =>
    refine And.intro (fun _ => And.intro (Or.inl rfl) (h0 ?_)) (fun c => absurd rfl c)
    rintro ⟨d, z, _⟩
    rw [hd] at z
    cases z
  | some d =>
    have e : qg_oi (some d) = (d : Int) := rfl
    rw [e]
    refine And.intro (fun c => absurd c (by omega)) (fun _ => ?_)
    refine And.intro (by omega) (And.intro (by omega) ?_)
    rw [e2, e3]
    refine sp_X11_in (fun c => mv_nt (And.intro (Or.inl rfl) (h0 ?_))) (fun c => mv_nf (And.intro (Or.inr rfl) (h1 ⟨d, hd, by omega⟩)))
    rintro ⟨d2, z, z2⟩
    rw [hd] at z
    cases z
    omega
