/-! The layout: pour, cover, arrange. -/
def qg_up (T : Nat → Nat) (k v : Nat) : Nat → Nat := fun m => if m = k then v else T m
/-- an article goes through the modules from k on: what takes each module, the modules of its lines, its jumps -/
def qg_pour (i len : Nat) : Nat → Nat → (Nat → Nat) → List Nat → Nat → Nat → (Nat → Nat) × List Nat × Nat
  | 0, _, T, ls, _, j => (T, ls, j)
  | n + 1, k, T, ls, lp, j => if ls.length < len then (if T k = 0 then (if 0 < ls.length ∧ k / 120 ≠ lp then qg_pour i len n (k + 1) (qg_up T k (11 + i)) ls (k / 120) (j + 1) else qg_pour i len n (k + 1) (qg_up T k (1 + i)) (ls ++ [k]) (k / 120) j) else qg_pour i len n (k + 1) T ls lp j) else (T, ls, j)
def qg_onp (p : Nat) (ls : List Nat) : Nat := (ls.filter (fun m => m / 120 == p)).length
theorem qg_onp_snoc (p : Nat) (ls : List Nat) (m : Nat) : qg_onp p (ls ++ [m]) = qg_onp p ls + (if m / 120 = p then 1 else 0) := by
  unfold qg_onp
  rw [List.filter_append, List.length_append]
  by_cases h : m / 120 = p <;> simp [h]
theorem qg_onp_le (p : Nat) (ls : List Nat) : qg_onp p ls ≤ ls.length := List.length_filter_le _ _
def qr_F (M : mv_M) (f len : Nat) (r : List Nat × Nat) : Prop := M.1 2 f 2 = (r.1.length : Int) ∧ M.1 2 f 3 = (len : Int) - (r.1.length : Int) ∧ M.1 2 f 4 = (r.2 : Int) ∧ (∀ (k m : Nat), r.1[k]? = some m → M.1 22 f k = (m : Int)) ∧ ∀ p, p < 3 → M.1 23 f p = (qg_onp p r.1 : Int)
theorem qr_F.fr {M M' : mv_M} {f len : Nat} {r : List Nat × Nat} (h : qr_F M f len r) (h0 : ∀ t k, (t = 2 ∨ t = 22 ∨ t = 23) → M'.1 t f k = M.1 t f k) : qr_F M' f len r :=
  ⟨(h0 2 2 (by omega)).trans h.1, (h0 2 3 (by omega)).trans h.2.1, (h0 2 4 (by omega)).trans h.2.2.1, fun k m hk => (h0 22 k (by omega)).trans (h.2.2.2.1 k m hk), fun p hp => (h0 23 p (by omega)).trans (h.2.2.2.2 p hp)⟩
set_option maxRecDepth 100000 in
theorem sp_fill20 {j : Nat} {v : Int} {M : mv_M} {Q : mv_R} (hv : -2147483648 ≤ v ∧ v ≤ 2147483647) (h : ∀ M', (∀ k, k < 360 → M'.1 20 j k = v) → mv_off (fun t b => t = 20 ∧ b = j) M M' → Q none M') : E_J7_fill_53178 [.inr (20, j), .inl v] M Q := by
  refine ev_J7_fill_53178 ?_
  refine go_J7_fill_53178 [5] 50 ?_
  have hl : ∀ (i : Nat) (M1 : mv_M), i ≤ 360 → (mv_off (fun t b => t = 20 ∧ b = j) M M1 ∧ ∀ k, k < i → M1.1 20 j k = v) → J_J7_fill_53178 Q 5 [some (.inr (20, j)), some (.inl v), some (.inl (i : Int)), some (.inl 360)] [] M1 := by
    refine mv_loop 360 (fun i M1 hi ih hI => ?_)
    refine go_J7_fill_53178 [5] 50 ?_
    refine And.intro (fun c1 => ?_) (fun c1 => ?_)
    · have : i = 360 := by omega
      subst this
      exact h M1 hI.2 hI.1
    · refine And.intro (by omega) ?_
      refine And.intro (by omega) ?_
      refine ih _ (by omega) ⟨hI.1.up ⟨rfl, rfl⟩, fun k hk => ?_⟩
      by_cases hki : k = i
      · subst hki; simp [mv_up]
      · simpa [mv_up, hki] using hI.2 k (by omega)
  exact hl 0 M (by omega) ⟨mv_off.rf, fun k hk => absurd hk (by omega)⟩
set_option maxRecDepth 100000 in
theorem sp_fill23 {j : Nat} {v : Int} {M : mv_M} {Q : mv_R} (hv : -2147483648 ≤ v ∧ v ≤ 2147483647) (h : ∀ M', (∀ k, k < 3 → M'.1 23 j k = v) → mv_off (fun t b => t = 23 ∧ b = j) M M' → Q none M') : E_J7_fill_53178 [.inr (23, j), .inl v] M Q := by
  refine ev_J7_fill_53178 ?_
  refine go_J7_fill_53178 [5] 50 ?_
  have hl : ∀ (i : Nat) (M1 : mv_M), i ≤ 3 → (mv_off (fun t b => t = 23 ∧ b = j) M M1 ∧ ∀ k, k < i → M1.1 23 j k = v) → J_J7_fill_53178 Q 5 [some (.inr (23, j)), some (.inl v), some (.inl (i : Int)), some (.inl 3)] [] M1 := by
    refine mv_loop 3 (fun i M1 hi ih hI => ?_)
    refine go_J7_fill_53178 [5] 50 ?_
    refine And.intro (fun c1 => ?_) (fun c1 => ?_)
    · have : i = 3 := by omega
      subst this
      exact h M1 hI.2 hI.1
    · refine And.intro (by omega) ?_
      refine And.intro (by omega) ?_
      refine ih _ (by omega) ⟨hI.1.up ⟨rfl, rfl⟩, fun k hk => ?_⟩
      by_cases hki : k = i
      · subst hki; simp [mv_up]
      · simpa [mv_up, hki] using hI.2 k (by omega)
  exact hl 0 M (by omega) ⟨mv_off.rf, fun k hk => absurd hk (by omega)⟩
set_option maxRecDepth 100000 in
theorem sp_X2_pour {f a i lam : Nat} {A : qg_A} {T : Nat → Nat} {R : (Nat → Nat) × List Nat × Nat} {M : mv_M} {Q : mv_R} (hA : qr_A M a A) (hw : qg_wA A) (hi : i < 6) (hT : ∀ m, m < 360 → M.1 20 lam m = (T m : Int)) (hR : qg_pour i A.2.1 (360 - A.1) A.1 T [] 0 0 = R)
    (h : ∀ M', (∀ m, m < 360 → M'.1 20 lam m = (R.1 m : Int)) → qr_F M' f A.2.1 R.2 → mv_off (fun t j => ((t = 2 ∨ t = 22 ∨ t = 23) ∧ j = f) ∨ (t = 20 ∧ j = lam)) M M' → Q none M') : E_X2_pour [.inr (2, f), .inr (0, a), .inl (i : Int), .inr (20, lam)] M Q := by
  refine ev_X2_pour ?_
  refine go_X2_pour [40] 50 ?_
  have w1 := hw.1
  have w2 := hw.2.1
  have w3 := hw.2.2.1
  -- the loop over the modules
  have hl : ∀ (k : Nat) (s : mv_M × (Nat → Nat) × List Nat × Nat × Nat), k ≤ 360 →
      (mv_off (fun t j => ((t = 2 ∨ t = 22 ∨ t = 23) ∧ j = f) ∨ (t = 20 ∧ j = lam)) M s.1 ∧ qg_pour i A.2.1 (360 - k) k s.2.1 s.2.2.1 s.2.2.2.1 s.2.2.2.2 = R ∧ (∀ m, m < 360 → s.1.1 20 lam m = (s.2.1 m : Int)) ∧ s.2.2.1.length ≤ A.2.1 ∧ s.2.2.2.2 ≤ k ∧
        s.1.1 2 f 2 = (s.2.2.1.length : Int) ∧ s.1.1 2 f 4 = (s.2.2.2.2 : Int) ∧ (∀ (n m : Nat), s.2.2.1[n]? = some m → s.1.1 22 f n = (m : Int)) ∧ ∀ p, p < 3 → s.1.1 23 f p = (qg_onp p s.2.2.1 : Int)) →
      ∀ (lp : Int) (o : Option mv_V), (0 < s.2.2.1.length → lp = (s.2.2.2.1 : Int)) →
      J_X2_pour Q 40 [some (.inr (2, f)), some (.inr (0, a)), some (.inl (i : Int)), some (.inr (20, lam)), some (.inl (A.2.1 : Int)), some (.inl lp), some (.inl (k : Int)), o] [] s.1 := by
    refine mv_loop 360 (fun k s hk ih hI lp o hlp => ?_)
    obtain ⟨M1, T1, ls, lpn, j⟩ := s
    obtain ⟨hO, hP, hT1, hlen, hj, e2, e4, hm, hp⟩ := hI
    dsimp only at hO hP hT1 hlen hj e2 e4 hm hp hlp ⊢
    -- the end
    have hend : (T1, ls, j) = R → J_X2_pour Q 155 [some (.inr (2, f)), some (.inr (0, a)), some (.inl (i : Int)), some (.inr (20, lam)), some (.inl (A.2.1 : Int)), some (.inl lp), some (.inl (k : Int)), o] [] M1 := by
      intro hE
      subst hE
      have ea : M1.1 0 a 2 = (A.2.1 : Int) := (hO.1 _ _ _ (by omega)).trans hA.2.1
      refine go_X2_pour [40] 50 ?_
      refine And.intro (by omega) (h _ (fun m hm' => ?_) ⟨?_, ?_, ?_, fun n m hn => ?_, fun p hp' => ?_⟩ (hO.up (Or.inl ⟨Or.inl rfl, rfl⟩)))
      · simpa [mv_up] using hT1 m hm'
      · simpa [mv_up] using e2
      · simp [mv_up, ea, e2]
      · simpa [mv_up] using e4
      · simpa [mv_up] using hm n m hn
      · simpa [mv_up] using hp p hp'
    refine go_X2_pour [40, 155, 106] 60 ?_
    refine And.intro (fun c1 => hend ?_) (fun c1 => ?_)
    · have : k = 360 := by omega
      subst this
      rw [Nat.sub_self] at hP
      exact hP
    · have hk2 : 360 - k = (360 - (k + 1)) + 1 := by omega
      rw [hk2] at hP
      unfold qg_pour at hP
      refine And.intro (fun c2 => hend ?_) (fun c2 => ?_)
      · rw [if_neg (by omega)] at hP
        exact hP
      · rw [if_pos (by omega)] at hP
        have hTk : M1.1 20 lam (k : Int).toNat = (T1 k : Int) := hT1 k (by omega)
        refine And.intro (by omega) ?_
        refine And.intro (fun c3 => ?_) (fun c3 => ?_)
        · rw [if_neg (by omega)] at hP
          refine And.intro (by omega) ?_
          exact ih (M1, T1, ls, lpn, j) (by omega) ⟨hO, hP, hT1, hlen, by show j ≤ k + 1; omega, e2, e4, hm, hp⟩ lp o hlp
        · rw [if_pos (by omega)] at hP
          obtain ⟨pg, hpg⟩ : ∃ pg, k / 120 = pg := ⟨_, rfl⟩
          have hpg3 : pg < 3 := by omega
          rw [hpg] at hP
          refine sp_pageOf rfl ?_
          rw [hpg]
          have line : ¬ (0 < ls.length ∧ pg ≠ lpn) → J_X2_pour Q 106 [some (.inr (2, f)), some (.inr (0, a)), some (.inl (i : Int)), some (.inr (20, lam)), some (.inl (A.2.1 : Int)), some (.inl lp), some (.inl (k : Int)), some (.inl (pg : Int))] [] M1 := by
            intro hn
            rw [if_neg hn] at hP
            refine go_X2_pour [40] 60 ?_
            refine And.intro (by omega) ?_
            refine And.intro (by omega) ?_
            have g2 : (mv_up M1.1 20 lam (k : Int).toNat (1 + (i : Int))) 2 f 2 = (ls.length : Int) := by simpa [mv_up] using e2
            refine And.intro (by simp only [g2]; omega) ?_
            have hq : (mv_up (mv_up M1.1 20 lam (k : Int).toNat (1 + (i : Int))) 22 f ((mv_up M1.1 20 lam (k : Int).toNat (1 + (i : Int))) 2 f 2).toNat (k : Int)) 23 f (pg : Int).toNat = (qg_onp pg ls : Int) := by
              simpa [mv_up] using hp pg (by omega)
            have hle := qg_onp_le pg ls
            refine And.intro (by omega) ?_
            refine And.intro (by simp only [hq]; omega) ?_
            refine And.intro (by omega) ?_
            refine And.intro (by simp only [mv_up]; simp; omega) ?_
            refine And.intro (by omega) ?_
            refine ih (_, qg_up T1 k (1 + i), ls ++ [k], pg, j) (by omega) ⟨((((hO.up (Or.inr ⟨rfl, rfl⟩)).up (Or.inl ⟨by omega, rfl⟩)).up (Or.inl ⟨by omega, rfl⟩)).up (Or.inl ⟨by omega, rfl⟩)), hP, ?_, by simp; omega, by show j ≤ k + 1; omega, ?_, ?_, ?_, ?_⟩ _ _ (fun _ => rfl)
            · intro m hm'
              by_cases hmk : m = k
              · subst hmk; simp [mv_up, qg_up]
              · simpa [mv_up, qg_up, hmk] using hT1 m hm'
            · simp [mv_up, e2]
            · simpa [mv_up] using e4
            · intro n m hn2
              have hn2 : (ls ++ [k])[n]? = some m := hn2
              by_cases hn3 : n < ls.length
              · rw [List.getElem?_append_left hn3] at hn2
                have hne : ¬ n = ls.length := by omega
                simpa [mv_up, e2, hne] using hm n m hn2
              · have := (List.getElem?_eq_some_iff.mp hn2).1
                simp at this
                have hn4 : n = ls.length := by omega
                subst hn4
                rw [List.getElem?_append_right (by omega)] at hn2
                simp at hn2
                subst hn2
                simp [mv_up, e2]
            · intro p hp'
              have hpp := hp p hp'
              show _ = ((qg_onp p (ls ++ [k]) : Nat) : Int)
              rw [qg_onp_snoc, hpg]
              by_cases hpk : p = pg
              · subst hpk
                simp [mv_up, hpp]
              · have hpk2 : ¬ pg = p := fun z => hpk z.symm
                simp [mv_up, hpp, hpk, hpk2]
          refine And.intro (fun c4 => line (by omega)) (fun c4 => ?_)
          refine And.intro (fun c5 => line (fun z => ?_)) (fun c5 => ?_)
          · have := hlp z.1
            have := z.2
            omega
          · have hpos : 0 < ls.length := by omega
            have hne : pg ≠ lpn := fun z => c5 (by rw [hlp hpos, z])
            rw [if_pos ⟨hpos, hne⟩] at hP
            refine And.intro (by omega) ?_
            refine And.intro (by omega) ?_
            have g4 : (mv_up M1.1 20 lam (k : Int).toNat (11 + (i : Int))) 2 f 4 = (j : Int) := by simpa [mv_up] using e4
            refine And.intro (by simp only [g4]; omega) ?_
            refine And.intro (by omega) ?_
            refine ih (_, qg_up T1 k (11 + i), ls, pg, j + 1) (by omega) ⟨((hO.up (Or.inr ⟨rfl, rfl⟩)).up (Or.inl ⟨by omega, rfl⟩)), hP, ?_, hlen, by show j + 1 ≤ k + 1; omega, ?_, ?_, ?_, ?_⟩ _ _ (fun _ => rfl)
            · intro m hm'
              by_cases hmk : m = k
              · subst hmk; simp [mv_up, qg_up]
              · simpa [mv_up, qg_up, hmk] using hT1 m hm'
            · simpa [mv_up] using e2
            · simp [mv_up, e4]
            · intro n m hn
              simpa [mv_up] using hm n m hn
            · intro p hp'
              simpa [mv_up] using hp p hp'
  refine sp_fill23 (by omega) (fun M2 hM2 hO2 => ?_)
  have ne : ∀ {t b : Nat} (k : Nat), ¬ (t = 23 ∧ b = f) → M2.1 t b k = (mv_up (mv_up M.1 2 f 2 0) 2 f 4 0) t b k := fun k hn => hO2.1 _ _ k hn
  have ea : M2.1 0 a 2 = (A.2.1 : Int) := by
    rw [ne 2 (by omega)]
    simpa [mv_up] using hA.2.1
  have es : M2.1 0 a 1 = (A.1 : Int) := by
    rw [ne 1 (by omega)]
    simpa [mv_up] using hA.1
  have hx := hl A.1 (M2, T, [], 0, 0) (by omega) ⟨?_, hR, fun m hm => ?_, Nat.zero_le _, Nat.zero_le _, ?_, ?_, fun n m hn => by simp at hn, fun p hp => ?_⟩ (-99) none (fun z => absurd z (by simp))
  · have emin : min (M2.1 0 a 2) 200 = (A.2.1 : Int) := by omega
    rw [← emin, ← es] at hx
    exact hx
  · exact ((mv_off.rf.up (Or.inl ⟨Or.inl rfl, rfl⟩)).up (Or.inl ⟨Or.inl rfl, rfl⟩)).tr (hO2.wk (fun t b z => Or.inl ⟨Or.inr (Or.inr z.1), z.2⟩))
  · show M2.1 20 lam m = _
    rw [ne m (by omega)]
    simpa [mv_up] using hT m hm
  · show M2.1 2 f 2 = _
    rw [ne 2 (by omega)]
    simp [mv_up]
  · show M2.1 2 f 4 = _
    rw [ne 4 (by omega)]
    simp [mv_up]
  · exact hM2 p hp
