/-! The class: Content.copyFrom, dropQuote, dropArticle. -/
theorem qf_ne {c d t j : Nat} (h : c ≠ d) (hf : qf_C d t j) : ¬ qf_C c t j := by
  unfold qf_C at *
  omega
set_option maxRecDepth 100000 in
theorem sp_X1_copyFrom {c d : Nat} {C : qg_C} {M : mv_M} {Q : mv_R} (hcd : c ≠ d) (hC : qr_C M d C) (hw : qg_wC C) (h : ∀ M', qr_C M' c C → mv_off (qf_C c) M M' → Q none M') : E_X1_copyFrom [.inr (1, c), .inr (1, d)] M Q := by
  refine ev_X1_copyFrom ?_
  refine go_X1_copyFrom [10] 50 ?_
  have w1 := hw.1
  have w2 := hw.2.1
  -- the second loop
  have l2 : ∀ (i : Nat) (M1 : mv_M), i ≤ C.2.1.length → (mv_off (qf_C c) M M1 ∧ M1.1 1 c 3 = (C.1.length : Int) ∧ M1.1 1 c 4 = (C.2.1.length : Int) ∧ (∀ k a, C.1[k]? = some a → qr_A M1 (6 * c + k) a) ∧ ∀ k q, k < i → C.2.1[k]? = some q → qr_Q M1 (8 * c + k) q) →
      J_X1_copyFrom Q 49 [some (.inr (1, c)), some (.inr (1, d)), some (.inl (i : Int))] [] M1 := by
    refine mv_loop C.2.1.length (fun i M1 hi ih hI => ?_)
    obtain ⟨hO, e3, e4, hA, hq⟩ := hI
    have hD : qr_C M1 d C := hC.fr hw (fun t j k hf => hO.1 t j k (qf_ne hcd hf))
    refine go_X1_copyFrom [49] 50 ?_
    refine And.intro (fun c1 => ?_) (fun c1 => ?_)
    · have hi2 : i = C.2.1.length := by omega
      refine And.intro (by decide) (h _ ⟨?_, ?_, fun k a ha => ?_, fun k q hk => ?_, ?_, ?_, ?_⟩ ⟨fun t j k hf => ?_, hO.2⟩)
      · simpa [mv_cp] using e3
      · simpa [mv_cp] using e4
      · exact (hA k a ha).fr (fun k => by simp [mv_cp]) (fun k => by simp [mv_cp])
      · exact (hq k q (by have := (List.getElem?_eq_some_iff.mp hk).1; omega) hk).fr (fun k => by simp [mv_cp])
      · simpa [mv_cp] using hD.2.2.2.2.1
      · simpa [mv_cp] using hD.2.2.2.2.2.1
      · simpa [mv_cp] using hD.2.2.2.2.2.2
      · have hz : ¬ (t = 14 ∧ j = c) := fun z => hf (by unfold qf_C; omega)
        show mv_cp M1.1 14 d 0 14 c 0 3 t j k = M.1 t j k
        rw [mv_cp, if_neg (fun z => hz ⟨z.1, z.2.1⟩)]
        exact hO.1 t j k hf
    · have hlt : i < C.2.1.length := by omega
      obtain ⟨q, hqi⟩ := qg_some hlt
      refine And.intro (by omega) ?_
      refine And.intro (by omega) ?_
      refine sp_X5_copyFrom (hD.2.2.2.1 i q hqi) (fun M2 hq2 hO2 => ?_)
      refine And.intro (by omega) ?_
      have ne : ∀ {t j : Nat} (k : Nat), ¬ (t = 5 ∧ j = 8 * c + i) → M2.1 t j k = M1.1 t j k := fun k hn => hO2.1 _ _ k hn
      refine ih M2 hlt ⟨hO.tr (hO2.wk (fun t j z => ?_)), ?_, ?_, fun k a ha => ?_, fun k r hk hr => ?_⟩
      · obtain ⟨z1, z2⟩ := z
        have z2 : j = 8 * c + i := z2
        unfold qf_C; omega
      · rw [ne 3 (by omega)]; exact e3
      · rw [ne 4 (by omega)]; exact e4
      · exact (hA k a ha).fr (fun k => ne k (by omega)) (fun k => ne k (by omega))
      · by_cases hk2 : k = i
        · subst hk2
          rw [hqi] at hr
          cases hr
          exact hq2
        · exact (hq k r (by omega) hr).fr (fun k => ne k (by omega))
  -- the first loop
  have l1 : ∀ (i : Nat) (M1 : mv_M), i ≤ C.1.length → (mv_off (qf_C c) M M1 ∧ M1.1 1 c 3 = (C.1.length : Int) ∧ ∀ k a, k < i → C.1[k]? = some a → qr_A M1 (6 * c + k) a) →
      J_X1_copyFrom Q 10 [some (.inr (1, c)), some (.inr (1, d)), some (.inl (i : Int))] [] M1 := by
    refine mv_loop C.1.length (fun i M1 hi ih hI => ?_)
    obtain ⟨hO, e3, hA⟩ := hI
    have hD : qr_C M1 d C := hC.fr hw (fun t j k hf => hO.1 t j k (qf_ne hcd hf))
    refine go_X1_copyFrom [10, 49] 50 ?_
    refine And.intro (fun c1 => ?_) (fun c1 => ?_)
    · have hi2 : i = C.1.length := by omega
      refine l2 0 _ (Nat.zero_le _) ⟨hO.up (Or.inl ⟨rfl, rfl⟩), ?_, ?_, fun k a ha => ?_, fun k q hk => absurd hk (by omega)⟩
      · simpa [mv_up] using e3
      · simpa [mv_up] using hD.2.1
      · exact (hA k a (by have := (List.getElem?_eq_some_iff.mp ha).1; omega) ha).fr (fun k => by simp [mv_up]) (fun k => by simp [mv_up])
    · have hlt : i < C.1.length := by omega
      obtain ⟨a, hai⟩ := qg_some hlt
      refine And.intro (by omega) ?_
      refine And.intro (by omega) ?_
      refine sp_X0_copyFrom (hD.2.2.1 i a hai) ((hw.2.2.1 a (List.mem_of_getElem? hai)).2.2.2.1) (fun M2 hq2 hO2 => ?_)
      refine And.intro (by omega) ?_
      have ne : ∀ {t j : Nat} (k : Nat), ¬ ((t = 0 ∨ t = 15) ∧ j = 6 * c + i) → M2.1 t j k = M1.1 t j k := fun k hn => hO2.1 _ _ k hn
      refine ih M2 hlt ⟨hO.tr (hO2.wk (fun t j z => ?_)), ?_, fun k r hk hr => ?_⟩
      · obtain ⟨z1, z2⟩ := z
        have z2 : j = 6 * c + i := z2
        unfold qf_C; omega
      · rw [ne 3 (by omega)]; exact e3
      · by_cases hk2 : k = i
        · subst hk2
          rw [hai] at hr
          cases hr
          exact hq2
        · exact (hA k r (by omega) hr).fr (fun k => ne k (by omega)) (fun k => ne k (by omega))
  refine l1 0 _ (Nat.zero_le _) ⟨mv_off.rf.up (Or.inl ⟨rfl, rfl⟩), ?_, fun k a hk => absurd hk (by omega)⟩
  simpa [mv_up] using hC.1
set_option maxRecDepth 100000 in
theorem sp_X1_dropQuote {c n : Nat} {C : qg_C} {x : Int} {M : mv_M} {Q : mv_R} (hx : x = (n : Int)) (hC : qr_C M c C) (hn : n < C.2.1.length) (w1 : C.1.length ≤ 6) (w2 : C.2.1.length ≤ 8) (h : ∀ M', qr_C M' c (C.1, C.2.1.eraseIdx n, C.2.2) → mv_off (qf_C c) M M' → Q none M') : E_X1_dropQuote [.inr (1, c), .inl x] M Q := by
  subst hx
  refine ev_X1_dropQuote ?_
  refine go_X1_dropQuote [21] 50 ?_
  refine sp_X1_hasQuote hC w2 (fun _ => mv_nt ?_) (fun c1 => absurd (by omega : 0 ≤ (n : Int) ∧ (n : Int) < (C.2.1.length : Int)) c1)
  have e4 := hC.2.1
  refine And.intro (by omega) ?_
  have l1 : ∀ (i : Nat) (M1 : mv_M), i ≤ C.2.1.length - 1 → (n ≤ i ∧ mv_off (qf_C c) M M1 ∧ M1.1 1 c 3 = (C.1.length : Int) ∧ M1.1 1 c 4 = ((C.2.1.length - 1 : Nat) : Int) ∧ (∀ k, M1.1 14 c k = M.1 14 c k) ∧ (∀ k a, C.1[k]? = some a → qr_A M1 (6 * c + k) a) ∧ (∀ k q, k < i → (C.2.1.eraseIdx n)[k]? = some q → qr_Q M1 (8 * c + k) q) ∧ ∀ k q, i ≤ k → C.2.1[k]? = some q → (n < k ∨ k = i) → (i < k ∨ i = n) → qr_Q M1 (8 * c + k) q) →
      J_X1_dropQuote Q 21 [some (.inr (1, c)), some (.inl (n : Int)), some (.inl (i : Int))] [] M1 := by
    refine mv_loop (C.2.1.length - 1) (fun i M1 hi ih hI => ?_)
    obtain ⟨hni, hO, e3, e4, e14, hA, hq, hr⟩ := hI
    refine go_X1_dropQuote [21] 50 ?_
    refine And.intro (fun c1 => ?_) (fun c1 => ?_)
    · have hi2 : i = C.2.1.length - 1 := by omega
      refine h M1 ⟨e3, ?_, hA, fun k q hk => ?_, (e14 0).trans hC.2.2.2.2.1, (e14 1).trans hC.2.2.2.2.2.1, (e14 2).trans hC.2.2.2.2.2.2⟩ hO
      · rw [e4, List.length_eraseIdx, if_pos hn]
      · have hk2 := (List.getElem?_eq_some_iff.mp hk).1
        rw [List.length_eraseIdx, if_pos hn] at hk2
        exact hq k q (by omega) hk
    · have hlt : i < C.2.1.length - 1 := by omega
      obtain ⟨q, hqi⟩ := qg_some (show i + 1 < C.2.1.length by omega)
      refine And.intro (by omega) ?_
      refine And.intro (by omega) ?_
      refine And.intro (by omega) ?_
      refine sp_X5_copyFrom (q := q) (hr (i + 1) q (by omega) hqi (by omega) (by omega)) (fun M2 hq2 hO2 => ?_)
      refine And.intro (by omega) ?_
      have ne : ∀ {t j : Nat} (k : Nat), ¬ (t = 5 ∧ j = 8 * c + i) → M2.1 t j k = M1.1 t j k := fun k hn => hO2.1 _ _ k hn
      refine ih M2 hlt ⟨by omega, hO.tr (hO2.wk (fun t j z => ?_)), ?_, ?_, fun k => ?_, fun k a ha => ?_, fun k r hk hr2 => ?_, fun k r hk hr2 h1 h2 => ?_⟩
      · obtain ⟨z1, z2⟩ := z
        have z2 : j = 8 * c + i := z2
        unfold qf_C; omega
      · rw [ne 3 (by omega)]; exact e3
      · rw [ne 4 (by omega)]; exact e4
      · rw [ne k (by omega)]; exact e14 k
      · exact (hA k a ha).fr (fun k => ne k (by omega)) (fun k => ne k (by omega))
      · by_cases hk2 : k = i
        · subst hk2
          rw [List.getElem?_eraseIdx, if_neg (by omega), hqi] at hr2
          cases hr2
          exact hq2
        · exact (hq k r (by omega) hr2).fr (fun k => ne k (by omega))
      · exact (hr k r (by omega) hr2 (by omega) (by omega)).fr (fun k => ne k (by omega))
  refine l1 n _ (by omega) ⟨Nat.le_refl _, mv_off.rf.up (Or.inl ⟨rfl, rfl⟩), ?_, ?_, fun k => ?_, fun k a ha => ?_, fun k q hk hq => ?_, fun k q hk hq _ _ => ?_⟩
  · simpa [mv_up] using hC.1
  · simp [mv_up, e4]; omega
  · simp [mv_up]
  · exact (hC.2.2.1 k a ha).fr (fun k => by simp [mv_up]) (fun k => by simp [mv_up])
  · rw [List.getElem?_eraseIdx, if_pos hk] at hq
    exact (hC.2.2.2.1 k q hq).fr (fun k => by simp [mv_up])
  · exact (hC.2.2.2.1 k q hq).fr (fun k => by simp [mv_up])
