/-! The reference: the layout. -/
set_option maxRecDepth 100000 in
theorem sp_X11_layQuote {n : Nat} {q : qg_Q} {p : Nat × Nat × Nat} {T : Nat → Nat} {x : Int} {M : mv_M} {Q : mv_R} (hx : x = (n : Int)) (hn : n < 8) (hq : rq_Q (M.1 24 0) (71 + 8 * n) q) (hw : qg_wQ q) (hp : q.2.2.2.2 = some p) (hin : qg_inQ q) (hT : ∀ m, m < 360 → M.1 28 0 m = (T m : Int))
    (h : ∀ M', (∀ m, m < 360 → M'.1 28 0 m = ((if qg_cov q m then 21 + n else T m : Nat) : Int)) → rr_of (fun t _ => t = 28) M M' → Q none M') : E_X11_layQuote [.inr (11, 0), .inl x] M Q := by
  subst hx
  refine ev_X11_layQuote ?_
  refine go_X11_layQuote [2] 60 ?_
  obtain ⟨pg, cl, rw⟩ := p
  have hP := hq.2.2.2.2
  rw [hp] at hP
  have p2 := hw.2.2.2.2 _ hp
  have p3 := hin _ hp
  have w1 := hw.1
  have w2 := hw.2.1
  have w3 := hw.2.2.1
  have w4 := hw.2.2.2.1
  have d1 : pg < 3 := p2.1
  have d2 : cl < 6 := p2.2.1
  have d3 : rw < 20 := p2.2.2
  have d4 : cl + q.2.2.1 ≤ 6 := p3.1
  have d5 : rw + q.2.2.2.1 ≤ 20 := p3.2
  have h2 := hq.2.2.1
  have h3 := hq.2.2.2.1
  have h5 : M.1 24 0 (71 + 8 * n + 5) = (pg : Int) := hP.2.1
  have h6 : M.1 24 0 (71 + 8 * n + 6) = (cl : Int) := hP.2.2.1
  have h7 : M.1 24 0 (71 + 8 * n + 7) = (rw : Int) := hP.2.2.2
  obtain ⟨W, hW⟩ : ∃ W : Nat, W = q.2.2.1 := ⟨_, rfl⟩
  obtain ⟨H, hH⟩ : ∃ H : Nat, H = q.2.2.2.1 := ⟨_, rfl⟩
  rw [← hW] at h2 w1 w2 d4
  rw [← hH] at h3 w3 w4 d5
  have hcov : ∀ m, m < 360 → (qg_cov q m = true ↔ m / 120 = pg ∧ cl ≤ m % 120 / 20 ∧ m % 120 / 20 < cl + W ∧ rw ≤ m % 20 ∧ m % 20 < rw + H) := by
    intro m hm
    unfold qg_cov
    rw [hp]
    simp only [decide_eq_true_eq]
    omega
  have outer : ∀ (c : Nat) (M1 : mv_M), c ≤ W → (rr_of (fun t _ => t = 28) M M1 ∧ ∀ m, m < 360 → M1.1 28 0 m = ((if m / 120 = pg ∧ cl ≤ m % 120 / 20 ∧ m % 120 / 20 < cl + c ∧ rw ≤ m % 20 ∧ m % 20 < rw + H then 21 + n else T m : Nat) : Int)) →
      ∀ (o : Option mv_V), J_X11_layQuote Q 2 [some (.inr (11, 0)), some (.inl (n : Int)), some (.inl (c : Int)), o] [] M1 := by
    refine mv_loop W (fun c M1 hc ih hI o => ?_)
    obtain ⟨hO, hm⟩ := hI
    refine go_X11_layQuote [14] 60 ?_
    refine sp_X11_ofQuote (p := 2) rfl rfl (by omega) ((hO.1 _ _ _ (by omega)).trans h2) ?_
    refine And.intro (fun c1 => ?_) (fun c1 => ?_)
    · refine h M1 (fun m hm' => ?_) hO
      rw [hm m hm']
      have hh := hcov m hm'
      by_cases hz : qg_cov q m = true
      · rw [if_pos hz, if_pos (by have := hh.mp hz; omega)]
      · rw [if_neg hz, if_neg (fun z => hz (hh.mpr (by omega)))]
    · have hcC : c < W := by omega
      have inner : ∀ (r : Nat) (M2 : mv_M), r ≤ H → (rr_of (fun t _ => t = 28) M M2 ∧ ∀ m, m < 360 → M2.1 28 0 m = ((if m / 120 = pg ∧ rw ≤ m % 20 ∧ ((cl ≤ m % 120 / 20 ∧ m % 120 / 20 < cl + c ∧ m % 20 < rw + H) ∨ (m % 120 / 20 = cl + c ∧ m % 20 < rw + r)) then 21 + n else T m : Nat) : Int)) →
          J_X11_layQuote Q 14 [some (.inr (11, 0)), some (.inl (n : Int)), some (.inl (c : Int)), some (.inl (r : Int))] [] M2 := by
        refine mv_loop H (fun r M2 hr ih2 hI2 => ?_)
        obtain ⟨hO2, hm2⟩ := hI2
        refine go_X11_layQuote [2, 14] 60 ?_
        refine sp_X11_ofQuote (p := 3) rfl rfl (by omega) ((hO2.1 _ _ _ (by omega)).trans h3) ?_
        refine And.intro (fun c2 => ?_) (fun c2 => ?_)
        · refine And.intro (by omega) ?_
          refine ih M2 hcC ⟨hO2, fun m hm' => ?_⟩ _
          rw [hm2 m hm']
          congr 2
          apply propext
          omega
        · have hrR : r < H := by omega
          refine sp_X11_ofQuote (p := 5) rfl rfl (by omega) ((hO2.1 _ _ _ (by omega)).trans h5) ?_
          refine And.intro (by omega) ?_
          refine sp_X11_ofQuote (p := 6) rfl rfl (by omega) ((hO2.1 _ _ _ (by omega)).trans h6) ?_
          refine And.intro (by omega) (And.intro (by omega) (And.intro (by omega) ?_))
          refine sp_X11_ofQuote (p := 7) rfl rfl (by omega) ((hO2.1 _ _ _ (by omega)).trans h7) ?_
          refine And.intro (by omega) (And.intro (by omega) (And.intro (by omega) (And.intro (by omega) (And.intro (by omega) ?_))))
          have ei : (120 * (pg : Int) + 20 * ((cl : Int) + (c : Int)) + (rw : Int) + (r : Int)).toNat = pg * 120 + (cl + c) * 20 + (rw + r) := by omega
          rw [ei]
          refine ih2 _ hrR ⟨hO2.up rfl, fun m hm' => ?_⟩
          show mv_up M2.1 28 0 (pg * 120 + (cl + c) * 20 + (rw + r)) (21 + (n : Int)) 28 0 m = _
          by_cases hz : m = pg * 120 + (cl + c) * 20 + (rw + r)
          · rw [hz, mv_up_eq, if_pos (by omega)]
            omega
          · rw [mv_up_ne (fun z => hz z.2.2), hm2 m hm']
            congr 2
            apply propext
            omega
      refine inner 0 M1 (by omega) ⟨hO, fun m hm' => ?_⟩
      rw [hm m hm']
      congr 2
      apply propext
      omega
  refine outer 0 M (by omega) ⟨rr_of.rf, fun m hm' => ?_⟩ none
  rw [hT m hm', if_neg (by omega)]
def rq_F (M : mv_M) (i len : Nat) (r : List Nat × Nat) : Prop := (r.1.length ≤ len ∧ len ≤ 200) ∧ M.1 30 0 i = (len : Int) - (r.1.length : Int) ∧ M.1 31 0 i = (r.2 : Int) ∧ (∀ (k m : Nat), r.1[k]? = some m → M.1 29 0 (200 * i + k) = (m : Int)) ∧ ∀ k, r.1.length ≤ k → k < len → M.1 29 0 (200 * i + k) = -99
def rf_la (i t k : Nat) : Prop := t = 28 ∨ (t = 29 ∧ 200 * i ≤ k ∧ k < 200 * i + 200) ∨ (t = 30 ∧ k = i) ∨ (t = 31 ∧ k = i)
theorem rq_F.fr {M M' : mv_M} {i len : Nat} {r : List Nat × Nat} (h : rq_F M i len r) (h0 : ∀ t k, rf_la i t k → t ≠ 28 → M'.1 t 0 k = M.1 t 0 k) : rq_F M' i len r := by
  obtain ⟨⟨h1, h2⟩, h3, h4, h5, h6⟩ := h
  refine ⟨⟨h1, h2⟩, (h0 30 i (by unfold rf_la; omega) (by decide)).trans h3, (h0 31 i (by unfold rf_la; omega) (by decide)).trans h4, fun k m hk => (h0 29 _ ?_ (by decide)).trans (h5 k m hk), fun k k1 k2 => (h0 29 _ ?_ (by decide)).trans (h6 k k1 k2)⟩
  · have := (List.getElem?_eq_some_iff.mp hk).1
    unfold rf_la; omega
  · unfold rf_la; omega
set_option maxRecDepth 100000 in
theorem sp_X11_layArticle {i : Nat} {A : qg_A} {T : Nat → Nat} {R : (Nat → Nat) × List Nat × Nat} {x : Int} {M : mv_M} {Q : mv_R} (hx : x = (i : Int)) (hA : rq_A (M.1 24 0) (5 + 11 * i) A) (hw : qg_wA A) (hi : i < 6) (hT : ∀ m, m < 360 → M.1 28 0 m = (T m : Int)) (hR : qg_pour i A.2.1 (360 - A.1) A.1 T [] 0 0 = R)
    (h : ∀ M', (∀ m, m < 360 → M'.1 28 0 m = (R.1 m : Int)) → rq_F M' i A.2.1 R.2 → rr_of (rf_la i) M M' → Q none M') : E_X11_layArticle [.inr (11, 0), .inl x] M Q := by
  subst hx
  refine ev_X11_layArticle ?_
  refine go_X11_layArticle [24] 60 ?_
  have w1 := hw.1
  have w2 := hw.2.1
  have w3 := hw.2.2.1
  have w8 := hw.2.2.2.1
  have hAt : ∀ {M1 : mv_M}, rr_of (rf_la i) M M1 → rq_A (M1.1 24 0) (5 + 11 * i) A := fun hO => hA.fr w8 (fun k _ => hO.1 24 0 _ (by unfold rf_la; omega))
  have hl : ∀ (k : Nat) (s : mv_M × (Nat → Nat) × List Nat × Nat × Nat), k ≤ 360 →
      (rr_of (rf_la i) M s.1 ∧ qg_pour i A.2.1 (360 - k) k s.2.1 s.2.2.1 s.2.2.2.1 s.2.2.2.2 = R ∧ (∀ m, m < 360 → s.1.1 28 0 m = (s.2.1 m : Int)) ∧ s.2.2.1.length ≤ A.2.1 ∧ s.2.2.2.2 ≤ k ∧ s.1.1 31 0 i = (s.2.2.2.2 : Int) ∧ (∀ (n m : Nat), s.2.2.1[n]? = some m → s.1.1 29 0 (200 * i + n) = (m : Int))) →
      ∀ (lq nq : Int) (o : Option mv_V), (s.2.2.1.length = 0 → lq = -99 ∧ nq = -99) → (0 < s.2.2.1.length → 0 ≤ lq ∧ lq ≤ (s.2.2.2.1 : Int) ∧ nq ≤ (s.2.2.2.1 : Int) ∧ (lq = (s.2.2.2.1 : Int) ∨ nq = (s.2.2.2.1 : Int)) ∧ s.2.2.2.1 * 120 ≤ k) →
      J_X11_layArticle Q 24 [some (.inr (11, 0)), some (.inl (i : Int)), some (.inl (s.2.2.1.length : Int)), some (.inl lq), some (.inl nq), some (.inl (k : Int)), o] [] s.1 := by
    refine mv_loop 360 (fun k s hk ih hI lq nq o hz hnz => ?_)
    obtain ⟨M1, T1, ls, lpn, j⟩ := s
    obtain ⟨hO, hP, hT1, hlen, hj, e31, hm⟩ := hI
    dsimp only at hO hP hT1 hlen hj e31 hm hz hnz ⊢
    have hA1 := hAt hO
    have hend : (T1, ls, j) = R → ∀ o, J_X11_layArticle Q 152 [some (.inr (11, 0)), some (.inl (i : Int)), some (.inl (ls.length : Int)), some (.inl lq), some (.inl nq), some (.inl (k : Int)), o] [] M1 := by
      intro hE o
      subst hE
      have hf : ∀ (n : Nat) (M2 : mv_M), n ≤ A.2.1 → (ls.length ≤ n ∧ rr_of (rf_la i) M M2 ∧ (∀ m, m < 360 → M2.1 28 0 m = (T1 m : Int)) ∧ M2.1 30 0 i = (A.2.1 : Int) - (ls.length : Int) ∧ M2.1 31 0 i = (j : Int) ∧ (∀ (n m : Nat), ls[n]? = some m → M2.1 29 0 (200 * i + n) = (m : Int)) ∧ ∀ k, ls.length ≤ k → k < n → M2.1 29 0 (200 * i + k) = -99) →
          J_X11_layArticle Q 169 [some (.inr (11, 0)), some (.inl (i : Int)), some (.inl (ls.length : Int)), some (.inl lq), some (.inl nq), some (.inl (n : Int)), o] [] M2 := by
        refine mv_loop A.2.1 (fun n M2 hn ih2 hI2 => ?_)
        obtain ⟨g1, gO, g28, g30, g31, g29, gn⟩ := hI2
        refine go_X11_layArticle [169] 60 ?_
        refine sp_X11_of (p := 1) rfl rfl (by omega) (hAt gO).2.1 ?_
        refine And.intro (fun c => ?_) (fun c => ?_)
        · have : n = A.2.1 := by omega
          subst this
          exact h M2 g28 ⟨⟨hlen, w3⟩, g30, g31, g29, gn⟩ gO
        · refine And.intro (by omega) (And.intro (by omega) (And.intro (by omega) (And.intro (by omega) ?_)))
          have en : (200 * (i : Int) + (n : Int)).toNat = 200 * i + n := by omega
          rw [en]
          refine ih2 _ (by omega) ⟨by omega, gO.up (by unfold rf_la; omega), fun m hm' => (mv_nep (by omega)).trans (g28 m hm'), (mv_nep (by omega)).trans g30, (mv_nep (by omega)).trans g31, fun a m ha => (mv_nep ?_).trans (g29 a m ha), fun a a1 a2 => ?_⟩
          · have := (List.getElem?_eq_some_iff.mp ha).1
            omega
          · by_cases ea : a = n
            · subst ea
              exact mv_eqp
            · exact (mv_nep (by omega)).trans (gn a a1 (by omega))
      refine go_X11_layArticle [169] 60 ?_
      refine sp_X11_of (p := 1) rfl rfl (by omega) hA1.2.1 ?_
      refine And.intro (by omega) (And.intro (by omega) ?_)
      have ei : (i : Int).toNat = i := by omega
      rw [ei]
      exact hf ls.length _ hlen ⟨Nat.le_refl _, hO.up (by unfold rf_la; omega), fun m hm' => (mv_nep (by omega)).trans (hT1 m hm'), mv_eqp, (mv_nep (by omega)).trans e31, fun a m ha => (mv_nep (by omega)).trans (hm a m ha), fun a a1 a2 => absurd a2 (by omega)⟩
    refine go_X11_layArticle [24, 152, 106] 80 ?_
    refine And.intro (fun c1 => hend ?_ _) (fun c1 => ?_)
    · have : k = 360 := by omega
      subst this
      rw [Nat.sub_self] at hP
      exact hP
    · have hk2 : 360 - k = (360 - (k + 1)) + 1 := by omega
      rw [hk2] at hP
      unfold qg_pour at hP
      refine sp_X11_of (p := 1) rfl rfl (by omega) hA1.2.1 ?_
      refine And.intro (fun c2 => hend ?_ _) (fun c2 => ?_)
      · rw [if_neg (by omega)] at hP
        exact hP
      · rw [if_pos (by omega)] at hP
        obtain ⟨pg, hpg⟩ : ∃ pg, k / 120 = pg := ⟨_, rfl⟩
        rw [hpg] at hP
        have epg : (k : Int) / 120 = (pg : Int) := by omega
        have ek : (k : Int).toNat = k := by omega
        have ei : (i : Int).toNat = i := by omega
        have hTk : M1.1 28 0 (k : Int).toNat = (T1 k : Int) := by rw [ek]; exact hT1 k (by omega)
        refine And.intro (by omega) ?_
        rw [epg]
        have rest : (T1 k = 0 → ¬ (0 < ls.length ∧ pg ≠ lpn)) → J_X11_layArticle Q 106 [some (.inr (11, 0)), some (.inl (i : Int)), some (.inl (ls.length : Int)), some (.inl lq), some (.inl nq), some (.inl (k : Int)), some (.inl (pg : Int))] [] M1 := by
          intro hn
          refine go_X11_layArticle [24] 80 ?_
          refine And.intro (by omega) ?_
          refine And.intro (fun c3 => ?_) (fun c3 => ?_)
          · rw [if_neg (by omega)] at hP
            refine And.intro (by omega) ?_
            exact ih (M1, T1, ls, lpn, j) (by omega) ⟨hO, hP, hT1, hlen, by show j ≤ k + 1; omega, e31, hm⟩ lq nq _ hz (fun z => by have := hnz z; show 0 ≤ lq ∧ lq ≤ (lpn : Int) ∧ nq ≤ (lpn : Int) ∧ (lq = (lpn : Int) ∨ nq = (lpn : Int)) ∧ lpn * 120 ≤ k + 1; omega)
          · have hT0 : T1 k = 0 := by omega
            rw [if_pos hT0, if_neg (hn hT0)] at hP
            refine And.intro (by omega) (And.intro (by omega) (And.intro (by omega) (And.intro (by omega) (And.intro (by omega) (And.intro (by omega) (And.intro (by omega) ?_))))))
            have en : (200 * (i : Int) + (ls.length : Int)).toNat = 200 * i + ls.length := by omega
            rw [en, ek]
            have el : ((ls ++ [k]).length : Int) = (ls.length : Int) + 1 := by simp
            have hh := ih ((mv_up (mv_up M1.1 28 0 k (1 + (i : Int))) 29 0 (200 * i + ls.length) (k : Int), M1.2), qg_up T1 k (1 + i), ls ++ [k], pg, j) (by omega) ⟨(hO.up (by unfold rf_la; omega)).up (by unfold rf_la; omega), hP, ?_, by simp; omega, by show j ≤ k + 1; omega, ?_, ?_⟩ (pg : Int) nq (some (.inl (pg : Int))) (fun z => by simp at z) (fun _ => ?_)
            · rw [el] at hh
              exact hh
            · intro m hm'
              refine (mv_nep (by omega)).trans ?_
              by_cases hmk : m = k
              · subst hmk
                rw [mv_up_eq]
                show _ = ((qg_up T1 m (1 + i) m : Nat) : Int)
                unfold qg_up
                rw [if_pos rfl]; omega
              · rw [mv_up_ne (by omega)]
                show _ = ((qg_up T1 k (1 + i) m : Nat) : Int)
                unfold qg_up
                rw [if_neg hmk]; exact hT1 m hm'
            · exact (mv_nep (by omega)).trans ((mv_up_ne (by omega)).trans e31)
            · intro n m hn2
              have hn2 : (ls ++ [k])[n]? = some m := hn2
              by_cases hn3 : n < ls.length
              · rw [List.getElem?_append_left hn3] at hn2
                exact (mv_nep (by omega)).trans ((mv_up_ne (by omega)).trans (hm n m hn2))
              · have := (List.getElem?_eq_some_iff.mp hn2).1
                simp at this
                have hn4 : n = ls.length := by omega
                subst hn4
                rw [List.getElem?_append_right (by omega)] at hn2
                simp at hn2
                subst hn2
                exact mv_eqp
            · show 0 ≤ (pg : Int) ∧ (pg : Int) ≤ (pg : Int) ∧ nq ≤ (pg : Int) ∧ ((pg : Int) = (pg : Int) ∨ nq = (pg : Int)) ∧ pg * 120 ≤ k + 1
              rcases Nat.eq_zero_or_pos ls.length with z | z
              · have := hz z; omega
              · have := hnz z; omega
        refine And.intro (by omega) ?_
        refine And.intro (fun c3 => rest (by omega)) (fun c3 => ?_)
        have hT0 : T1 k = 0 := by omega
        refine And.intro (fun c4 => rest (fun _ z => ?_)) (fun c4 => ?_)
        · have := hnz z.1; omega
        · have hpos : 0 < ls.length := by
            rcases Nat.eq_zero_or_pos ls.length with z | z
            · exact absurd (hz z).1 c4
            · exact z
          have hq := hnz hpos
          refine And.intro (fun c5 => rest (fun _ z => ?_)) (fun c5 => ?_)
          · have := z.2; omega
          · refine And.intro (fun c6 => rest (fun _ z => ?_)) (fun c6 => ?_)
            · have := z.2; omega
            · have hne : pg ≠ lpn := by omega
              rw [if_pos hT0, if_pos ⟨hpos, hne⟩] at hP
              refine And.intro (by omega) (And.intro (by omega) (And.intro (by omega) ?_))
              have g31 : ((mv_up M1.1 28 0 (k : Int).toNat (11 + (i : Int)), M1.2) : mv_M).1 31 0 (i : Int).toNat = (j : Int) := by
                rw [ei]; exact (mv_nep (by omega)).trans e31
              rw [g31, ek]
              refine And.intro (by omega) (And.intro (by omega) ?_)
              rw [ei]
              refine And.intro (by omega) ?_
              refine ih ((mv_up (mv_up M1.1 28 0 k (11 + (i : Int))) 31 0 i ((j : Int) + 1), M1.2), qg_up T1 k (11 + i), ls, pg, j + 1) (by omega) ⟨(hO.up (by unfold rf_la; omega)).up (by unfold rf_la; omega), hP, ?_, hlen, by show j + 1 ≤ k + 1; omega, ?_, ?_⟩ _ _ _ (fun z => absurd (show ls.length = 0 from z) (by omega)) (fun _ => ?_)
              · intro m hm'
                refine (mv_nep (by omega)).trans ?_
                by_cases hmk : m = k
                · subst hmk
                  rw [mv_up_eq]
                  show _ = ((qg_up T1 m (11 + i) m : Nat) : Int)
                  unfold qg_up
                  rw [if_pos rfl]; omega
                · rw [mv_up_ne (by omega)]
                  show _ = ((qg_up T1 k (11 + i) m : Nat) : Int)
                  unfold qg_up
                  rw [if_neg hmk]; exact hT1 m hm'
              · refine Eq.trans mv_eqp ?_
                show (j : Int) + 1 = ((j + 1 : Nat) : Int)
                omega
              · intro n m hn
                exact (mv_nep (by omega)).trans ((mv_up_ne (by omega)).trans (hm n m hn))
              · show 0 ≤ lq ∧ lq ≤ (pg : Int) ∧ (pg : Int) ≤ (pg : Int) ∧ (lq = (pg : Int) ∨ (pg : Int) = (pg : Int)) ∧ pg * 120 ≤ k + 1
                omega
  refine And.intro (by omega) ?_
  have ei : (i : Int).toNat = i := by omega
  rw [ei]
  have hO1 : rr_of (rf_la i) M (mv_up M.1 31 0 i 0, M.2) := rr_of.rf.up (by unfold rf_la; omega)
  refine sp_X11_of (p := 0) rfl rfl (by omega) (hAt hO1).1 ?_
  exact hl A.1 ((mv_up M.1 31 0 i 0, M.2), T, [], 0, 0) (by omega) ⟨hO1, hR, fun m hm' => (mv_nep (by omega)).trans (hT m hm'), Nat.zero_le _, Nat.zero_le _, mv_eqp, fun n m hn => by simp at hn⟩ (-99) (-99) none (fun _ => ⟨rfl, rfl⟩) (fun z => absurd z (by simp))
