/-! The class: Content.copyFrom, dropQuote, dropArticle. -/
theorem qf_ne {c d t j : Nat} (h : c ≠ d) (hf : qf_C d t j) : ¬ qf_C c t j := by
  unfold qf_C at *
  omega
set_option maxRecDepth 100000 in
theorem sp_X1_copyFrom {c d : Nat} {C : qg_C} {M : mv_M} {Q : mv_R} (hcd : c ≠ d) (hC : qr_C M d C) (hw : qg_wC C) (h : ∀ M', qr_C M' c C → mv_off (qf_C c) M M' → Q none M') : E_X1_copyFrom [.inr (1, c), .inr (1, d)] M Q := by
  refine ev_X1_copyFrom ?_
  refine go_X1_copyFrom [10] 50 ?_
  have w1 := hw.1
  have w2 := hw.2.1
  -- the second loop
  have l2 : ∀ (i : Nat) (M1 : mv_M), i ≤ C.2.1.length → (mv_off (qf_C c) M M1 ∧ M1.1 1 c 3 = (C.1.length : Int) ∧ M1.1 1 c 4 = (C.2.1.length : Int) ∧ (∀ k a, C.1[k]? = some a → qr_A M1 (6 * c + k) a) ∧ ∀ k q, k < i → C.2.1[k]? = some q → qr_Q M1 (8 * c + k) q) →
      J_X1_copyFrom Q 49 [some (.inr (1, c)), some (.inr (1, d)), some (.inl (i : Int))] [] M1 := by
    refine mv_loop C.2.1.length (fun i M1 hi ih hI => ?_)
    obtain ⟨hO, e3, e4, hA, hq⟩ := hI
    have hD : qr_C M1 d C := hC.fr hw (fun t j k hf => hO.1 t j k (qf_ne hcd hf))
    refine go_X1_copyFrom [49] 50 ?_
    refine And.intro (fun c1 => ?_) (fun c1 => ?_)
    · have hi2 : i = C.2.1.length := by omega
      refine And.intro (by decide) (h _ ⟨?_, ?_, fun k a ha => ?_, fun k q hk => ?_, ?_, ?_, ?_⟩ ⟨fun t j k hf => ?_, hO.2⟩)
      · simpa [mv_cp] using e3
      · simpa [mv_cp] using e4
      · exact (hA k a ha).fr (fun k => by simp [mv_cp]) (fun k => by simp [mv_cp])
      · exact (hq k q (by have := (List.getElem?_eq_some_iff.mp hk).1; omega) hk).fr (fun k => by simp [mv_cp])
      · simpa [mv_cp] using hD.2.2.2.2.1
      · simpa [mv_cp] using hD.2.2.2.2.2.1
      · simpa [mv_cp] using hD.2.2.2.2.2.2
      · have hz : ¬ (t = 14 ∧ j = c) := fun z => hf (by unfold qf_C; omega)
        show mv_cp M1.1 14 d 0 14 c 0 3 t j k = M.1 t j k
        rw [mv_cp, if_neg (fun z => hz ⟨z.1, z.2.1⟩)]
        exact hO.1 t j k hf
    · have hlt : i < C.2.1.length := by omega
      obtain ⟨q, hqi⟩ := qg_some hlt
      refine And.intro (by omega) ?_
      refine And.intro (by omega) ?_
      refine sp_X5_copyFrom (hD.2.2.2.1 i q hqi) (fun M2 hq2 hO2 => ?_)
      refine And.intro (by omega) ?_
      have ne : ∀ {t j : Nat} (k : Nat), ¬ (t = 5 ∧ j = 8 * c + i) → M2.1 t j k = M1.1 t j k := fun k hn => hO2.1 _ _ k hn
      refine ih M2 hlt ⟨hO.tr (hO2.wk (fun t j z => ?_)), ?_, ?_, fun k a ha => ?_, fun k r hk hr => ?_⟩
      · obtain ⟨z1, z2⟩ := z
        have z2 : j = 8 * c + i := z2
        unfold qf_C; omega
      · rw [ne 3 (by omega)]; exact e3
      · rw [ne 4 (by omega)]; exact e4
      · exact (hA k a ha).fr (fun k => ne k (by omega)) (fun k => ne k (by omega))
      · by_cases hk2 : k = i
        · subst hk2
          rw [hqi] at hr
          cases hr
          exact hq2
        · exact (hq k r (by omega) hr).fr (fun k => ne k (by omega))
  -- the first loop
  have l1 : ∀ (i : Nat) (M1 : mv_M), i ≤ C.1.length → (mv_off (qf_C c) M M1 ∧ M1.1 1 c 3 = (C.1.length : Int) ∧ ∀ k a, k < i → C.1[k]? = some a → qr_A M1 (6 * c + k) a) →
      J_X1_copyFrom Q 10 [some (.inr (1, c)), some (.inr (1, d)), some (.inl (i : Int))] [] M1 := by
    refine mv_loop C.1.length (fun i M1 hi ih hI => ?_)
    obtain ⟨hO, e3, hA⟩ := hI
    have hD : qr_C M1 d C := hC.fr hw (fun t j k hf => hO.1 t j k (qf_ne hcd hf))
    refine go_X1_copyFrom [10, 49] 50 ?_
    refine And.intro (fun c1 => ?_) (fun c1 => ?_)
    · have hi2 : i = C.1.length := by omega
      refine l2 0 _ (Nat.zero_le _) ⟨hO.up (Or.inl ⟨rfl, rfl⟩), ?_, ?_, fun k a ha => ?_, fun k q hk => absurd hk (by omega)⟩
      · simpa [mv_up] using e3
      · simpa [mv_up] using hD.2.1
      · exact (hA k a (by have := (List.getElem?_eq_some_iff.mp ha).1; omega) ha).fr (fun k => by simp [mv_up]) (fun k => by simp [mv_up])
    · have hlt : i < C.1.length := by omega
      obtain ⟨a, hai⟩ := qg_some hlt
      refine And.intro (by omega) ?_
      refine And.intro (by omega) ?_
      refine sp_X0_copyFrom (hD.2.2.1 i a hai) ((hw.2.2.1 a (List.mem_of_getElem? hai)).2.2.2.1) (fun M2 hq2 hO2 => ?_)
      refine And.intro (by omega) ?_
      have ne : ∀ {t j : Nat} (k : Nat), ¬ ((t = 0 ∨ t = 15) ∧ j = 6 * c + i) → M2.1 t j k = M1.1 t j k := fun k hn => hO2.1 _ _ k hn
      refine ih M2 hlt ⟨hO.tr (hO2.wk (fun t j z => ?_)), ?_, fun k r hk hr => ?_⟩
      · obtain ⟨z1, z2⟩ := z
        have z2 : j = 6 * c + i := z2
        unfold qf_C; omega
      · rw [ne 3 (by omega)]; exact e3
      · by_cases hk2 : k = i
        · subst hk2
          rw [hai] at hr
          cases hr
          exact hq2
        · exact (hA k r (by omega) hr).fr (fun k => ne k (by omega)) (fun k => ne k (by omega))
  refine l1 0 _ (Nat.zero_le _) ⟨mv_off.rf.up (Or.inl ⟨rfl, rfl⟩), ?_, fun k a hk => absurd hk (by omega)⟩
  simpa [mv_up] using hC.1
set_option maxRecDepth 100000 in
theorem sp_X1_dropQuote {c n : Nat} {C : qg_C} {x : Int} {M : mv_M} {Q : mv_R} (hx : x = (n : Int)) (hC : qr_C M c C) (hn : n < C.2.1.length) (w1 : C.1.length ≤ 6) (w2 : C.2.1.length ≤ 8) (h : ∀ M', qr_C M' c (C.1, C.2.1.eraseIdx n, C.2.2) → mv_off (qf_C c) M M' → Q none M') : E_X1_dropQuote [.inr (1, c), .inl x] M Q := by
  subst hx
  refine ev_X1_dropQuote ?_
  refine go_X1_dropQuote [21] 50 ?_
  refine sp_X1_hasQuote hC w2 (fun _ => mv_nt ?_) (fun c1 => absurd (by omega : 0 ≤ (n : Int) ∧ (n : Int) < (C.2.1.length : Int)) c1)
  have e4 := hC.2.1
  refine And.intro (by omega) ?_
  have l1 : ∀ (i : Nat) (M1 : mv_M), i ≤ C.2.1.length - 1 → (n ≤ i ∧ mv_off (qf_C c) M M1 ∧ M1.1 1 c 3 = (C.1.length : Int) ∧ M1.1 1 c 4 = ((C.2.1.length - 1 : Nat) : Int) ∧ (∀ k, M1.1 14 c k = M.1 14 c k) ∧ (∀ k a, C.1[k]? = some a → qr_A M1 (6 * c + k) a) ∧ (∀ k q, k < i → (C.2.1.eraseIdx n)[k]? = some q → qr_Q M1 (8 * c + k) q) ∧ ∀ k q, i ≤ k → C.2.1[k]? = some q → (n < k ∨ k = i) → (i < k ∨ i = n) → qr_Q M1 (8 * c + k) q) →
      J_X1_dropQuote Q 21 [some (.inr (1, c)), some (.inl (n : Int)), some (.inl (i : Int))] [] M1 := by
    refine mv_loop (C.2.1.length - 1) (fun i M1 hi ih hI => ?_)
    obtain ⟨hni, hO, e3, e4, e14, hA, hq, hr⟩ := hI
    refine go_X1_dropQuote [21] 50 ?_
    refine And.intro (fun c1 => ?_) (fun c1 => ?_)
    · have hi2 : i = C.2.1.length - 1 := by omega
      refine h M1 ⟨e3, ?_, hA, fun k q hk => ?_, (e14 0).trans hC.2.2.2.2.1, (e14 1).trans hC.2.2.2.2.2.1, (e14 2).trans hC.2.2.2.2.2.2⟩ hO
      · rw [e4, List.length_eraseIdx, if_pos hn]
      · have hk2 := (List.getElem?_eq_some_iff.mp hk).1
        rw [List.length_eraseIdx, if_pos hn] at hk2
        exact hq k q (by omega) hk
    · have hlt : i < C.2.1.length - 1 := by omega
      obtain ⟨q, hqi⟩ := qg_some (show i + 1 < C.2.1.length by omega)
      refine And.intro (by omega) ?_
      refine And.intro (by omega) ?_
      refine And.intro (by omega) ?_
      refine sp_X5_copyFrom (q := q) (hr (i + 1) q (by omega) hqi (by omega) (by omega)) (fun M2 hq2 hO2 => ?_)
      refine And.intro (by omega) ?_
      have ne : ∀ {t j : Nat} (k : Nat), ¬ (t = 5 ∧ j = 8 * c + i) → M2.1 t j k = M1.1 t j k := fun k hn => hO2.1 _ _ k hn
      refine ih M2 hlt ⟨by omega, hO.tr (hO2.wk (fun t j z => ?_)), ?_, ?_, fun k => ?_, fun k a ha => ?_, fun k r hk hr2 => ?_, fun k r hk hr2 h1 h2 => ?_⟩
      · obtain ⟨z1, z2⟩ := z
        have z2 : j = 8 * c + i := z2
        unfold qf_C; omega
      · rw [ne 3 (by omega)]; exact e3
      · rw [ne 4 (by omega)]; exact e4
      · rw [ne k (by omega)]; exact e14 k
      · exact (hA k a ha).fr (fun k => ne k (by omega)) (fun k => ne k (by omega))
      · by_cases hk2 : k = i
        · subst hk2
          rw [List.getElem?_eraseIdx, if_neg (by omega), hqi] at hr2
          cases hr2
          exact hq2
        · exact (hq k r (by omega) hr2).fr (fun k => ne k (by omega))
      · exact (hr k r (by omega) hr2 (by omega) (by omega)).fr (fun k => ne k (by omega))
  refine l1 n _ (by omega) ⟨Nat.le_refl _, mv_off.rf.up (Or.inl ⟨rfl, rfl⟩), ?_, ?_, fun k => ?_, fun k a ha => ?_, fun k q hk hq => ?_, fun k q hk hq _ _ => ?_⟩
  · simpa [mv_up] using hC.1
  · simp [mv_up, e4]; omega
  · simp [mv_up]
  · exact (hC.2.2.1 k a ha).fr (fun k => by simp [mv_up]) (fun k => by simp [mv_up])
  · rw [List.getElem?_eraseIdx, if_pos hk] at hq
    exact (hC.2.2.2.1 k q hq).fr (fun k => by simp [mv_up])
  · exact (hC.2.2.2.1 k q hq).fr (fun k => by simp [mv_up])
theorem qg_erase_mid {α : Type} : ∀ (l1 : List α) (x : α) (l2 : List α), (l1 ++ x :: l2).eraseIdx l1.length = l1 ++ l2
  | [], _, _ => rfl
  | y :: l1, x, l2 => by
    show y :: (l1 ++ x :: l2).eraseIdx l1.length = _
    rw [qg_erase_mid l1 x l2]; rfl
theorem qg_set_mid {α : Type} : ∀ (l1 : List α) (x y : α) (l2 : List α), (l1 ++ x :: l2).set l1.length y = l1 ++ y :: l2
  | [], _, _, _ => rfl
  | z :: l1, x, y, l2 => by
    show z :: (l1 ++ x :: l2).set l1.length y = _
    rw [qg_set_mid l1 x y l2]; rfl
theorem qr_C.setQ {M M' : mv_M} {c n : Nat} {C : qg_C} {q' : qg_Q} (hC : qr_C M c C) (hq : qr_Q M' (8 * c + n) q') (ho : ∀ t j k, ¬ (t = 5 ∧ j = 8 * c + n) → M'.1 t j k = M.1 t j k) : qr_C M' c (C.1, C.2.1.set n q', C.2.2) := by
  refine ⟨(ho _ _ _ (by omega)).trans hC.1, ?_, fun i a ha => (hC.2.2.1 i a ha).fr (fun k => ho _ _ _ (by omega)) (fun k => ho _ _ _ (by omega)), fun i q hi => ?_, (ho _ _ _ (by omega)).trans hC.2.2.2.2.1, (ho _ _ _ (by omega)).trans hC.2.2.2.2.2.1, (ho _ _ _ (by omega)).trans hC.2.2.2.2.2.2⟩
  · show _ = ((C.2.1.set n q').length : Int)
    rw [List.length_set]
    exact (ho _ _ _ (by omega)).trans hC.2.1
  · have hi2 : (C.2.1.set n q')[i]? = some q := hi
    rw [List.getElem?_set] at hi2
    by_cases hn : n = i
    · subst hn
      rw [if_pos rfl] at hi2
      split at hi2
      · cases hi2; exact hq
      · cases hi2
    · rw [if_neg hn] at hi2
      exact (hC.2.2.2.1 i q hi2).fr (fun k => ho _ _ _ (by omega))
/-- the quotes that stay when an article goes -/
def qg_dec (a : Nat) (q : qg_Q) : qg_Q := (if a < q.1 then q.1 - 1 else q.1, q.2)
def qg_dropQs (a : Nat) (qs : List qg_Q) : List qg_Q := (qs.filter (fun q => !(q.1 == a))).map (qg_dec a)
theorem qg_dropQs_cons (a : Nat) (q : qg_Q) (qs : List qg_Q) : qg_dropQs a (q :: qs) = if q.1 = a then qg_dropQs a qs else qg_dec a q :: qg_dropQs a qs := by
  unfold qg_dropQs
  by_cases h : q.1 = a
  · rw [if_pos h, List.filter_cons_of_neg (by simp [h])]
  · rw [if_neg h, List.filter_cons_of_pos (by simp [h])]; rfl
theorem qg_dropQs_len (a : Nat) (qs : List qg_Q) : (qg_dropQs a qs).length ≤ qs.length := by
  unfold qg_dropQs
  rw [List.length_map]
  exact List.length_filter_le _ _
theorem qg_drop_cons {α : Type} {l : List α} {i : Nat} {x : α} (h : l[i]? = some x) : l.drop i = x :: l.drop (i + 1) := by
  obtain ⟨h1, h2⟩ := List.getElem?_eq_some_iff.mp h
  rw [List.drop_eq_getElem_cons h1, h2]
set_option maxRecDepth 100000 in
theorem sp_X1_dropArticle {c a : Nat} {C : qg_C} {M : mv_M} {Q : mv_R} (hC : qr_C M c C) (hw : qg_wC C) (ha : a < C.1.length) (h : ∀ M', qr_C M' c (C.1.eraseIdx a, qg_dropQs a C.2.1, C.2.2) → mv_off (qf_C c) M M' → Q none M') : E_X1_dropArticle [.inr (1, c), .inl (a : Int)] M Q := by
  refine ev_X1_dropArticle ?_
  refine go_X1_dropArticle [16] 50 ?_
  have w1 := hw.1
  have w2 := hw.2.1
  refine sp_X1_hasArticle hC w1 (fun _ => mv_nt ?_) (fun c1 => absurd (by omega : 0 ≤ (a : Int) ∧ (a : Int) < (C.1.length : Int)) c1)
  have e4 := hC.2.1
  -- the articles behind move up
  have l2 : ∀ (i : Nat) (M1 : mv_M), i ≤ C.1.length - 1 → (a ≤ i ∧ mv_off (qf_C c) M M1 ∧ M1.1 1 c 3 = ((C.1.length - 1 : Nat) : Int) ∧ M1.1 1 c 4 = ((qg_dropQs a C.2.1).length : Int) ∧ (∀ k, k < 3 → M1.1 14 c k = M.1 14 c k) ∧ (∀ k q, (qg_dropQs a C.2.1)[k]? = some q → qr_Q M1 (8 * c + k) q) ∧ (∀ k A, k < i → (C.1.eraseIdx a)[k]? = some A → qr_A M1 (6 * c + k) A) ∧ ∀ k A, i ≤ k → C.1[k]? = some A → (a < k ∨ k = i) → (i < k ∨ i = a) → qr_A M1 (6 * c + k) A) →
      ∀ z : Int, z = (i : Int) → J_X1_dropArticle Q 87 [some (.inr (1, c)), some (.inl (a : Int)), some (.inl z)] [] M1 := by
    refine mv_loop (C.1.length - 1) (fun i M1 hi ih hI z hz => ?_)
    subst hz
    obtain ⟨hni, hO, e3, e4, e14, hA, hq, hr⟩ := hI
    refine go_X1_dropArticle [87] 50 ?_
    refine And.intro (fun c1 => ?_) (fun c1 => ?_)
    · have hi2 : i = C.1.length - 1 := by omega
      refine h M1 ⟨?_, e4, fun k q hk => ?_, hA, (e14 0 (by omega)).trans hC.2.2.2.2.1, (e14 1 (by omega)).trans hC.2.2.2.2.2.1, (e14 2 (by omega)).trans hC.2.2.2.2.2.2⟩ hO
      · rw [e3, List.length_eraseIdx, if_pos ha]
      · have hk2 := (List.getElem?_eq_some_iff.mp hk).1
        rw [List.length_eraseIdx, if_pos ha] at hk2
        exact hq k q (by omega) hk
    · have hlt : i < C.1.length - 1 := by omega
      obtain ⟨q, hqi⟩ := qg_some (show i + 1 < C.1.length by omega)
      refine And.intro (by omega) ?_
      refine And.intro (by omega) ?_
      refine And.intro (by omega) ?_
      refine sp_X0_copyFrom (A := q) (hr (i + 1) q (by omega) hqi (by omega) (by omega)) ((hw.2.2.1 q (List.mem_of_getElem? hqi)).2.2.2.1) (fun M2 hq2 hO2 => ?_)
      refine And.intro (by omega) ?_
      have ne : ∀ {t j : Nat} (k : Nat), ¬ ((t = 0 ∨ t = 15) ∧ j = 6 * c + i) → M2.1 t j k = M1.1 t j k := fun k hn => hO2.1 _ _ k hn
      refine ih M2 hlt ⟨by omega, hO.tr (hO2.wk (fun t j z => ?_)), ?_, ?_, fun k hk3 => ?_, fun k a ha => ?_, fun k r hk hr2 => ?_, fun k r hk hr2 h1 h2 => ?_⟩ _ rfl
      · obtain ⟨z1, z2⟩ := z
        have z2 : j = 6 * c + i := z2
        unfold qf_C; omega
      · rw [ne 3 (by omega)]; exact e3
      · rw [ne 4 (by omega)]; exact e4
      · rw [ne k (by omega)]; exact e14 k hk3
      · exact (hA k a ha).fr (fun k => ne k (by omega))
      · by_cases hk2 : k = i
        · subst hk2
          rw [List.getElem?_eraseIdx, if_neg (by omega), hqi] at hr2
          cases hr2
          exact hq2
        · exact (hq k r (by omega) hr2).fr (fun k => ne k (by omega)) (fun k => ne k (by omega))
      · exact (hr k r (by omega) hr2 (by omega) (by omega)).fr (fun k => ne k (by omega)) (fun k => ne k (by omega))
  -- the quotes, from the last to the first
  have l1 : ∀ (j : Nat) (M1 : mv_M), j ≤ C.2.1.length → qr_C M1 c (C.1, C.2.1.take j ++ qg_dropQs a (C.2.1.drop j), C.2.2) → mv_off (qf_C c) M M1 →
      ∀ z : Int, z = (j : Int) - 1 → J_X1_dropArticle Q 16 [some (.inr (1, c)), some (.inl (a : Int)), some (.inl z)] [] M1 := by
    intro j
    induction j with
    | zero =>
      intro M1 _ hC1 hO z hz
      rw [List.take_zero, List.nil_append, List.drop_zero] at hC1
      refine go_X1_dropArticle [16, 87] 50 ?_
      refine And.intro (fun _ => ?_) (fun c1 => absurd c1 (by omega))
      have e3 : M1.1 1 c 3 = (C.1.length : Int) := hC1.1
      refine And.intro (by omega) ?_
      refine l2 a _ (by omega) ⟨Nat.le_refl _, hO.up (Or.inl ⟨rfl, rfl⟩), ?_, ?_, fun k hk3 => ?_, fun k q hq => ?_, fun k A hk hA => ?_, fun k A hk hA _ _ => ?_⟩ _ rfl
      · simp [mv_up, e3]; omega
      · simpa [mv_up] using hC1.2.1
      · have h0 := hC1.2.2.2.2
        have hk : k = 0 ∨ k = 1 ∨ k = 2 := by omega
        · rcases hk with rfl | rfl | rfl
          · simpa [mv_up] using h0.1.trans hC.2.2.2.2.1.symm
          · simpa [mv_up] using h0.2.1.trans hC.2.2.2.2.2.1.symm
          · simpa [mv_up] using h0.2.2.trans hC.2.2.2.2.2.2.symm
      · exact (hC1.2.2.2.1 k q hq).fr (fun k => by simp [mv_up])
      · rw [List.getElem?_eraseIdx, if_pos hk] at hA
        exact (hC1.2.2.1 k A hA).fr (fun k => by simp [mv_up]) (fun k => by simp [mv_up])
      · exact (hC1.2.2.1 k A hA).fr (fun k => by simp [mv_up]) (fun k => by simp [mv_up])
    | succ j ih =>
      intro M1 hj hC1 hO z hz
      have hz : z = (j : Int) := by omega
      subst hz
      obtain ⟨q, hq⟩ := qg_some (show j < C.2.1.length by omega)
      have hlen : (C.2.1.take j).length = j := by rw [List.length_take]; omega
      have hqb : q.1 < C.1.length := by
        obtain ⟨A, hA, -⟩ := (hw.2.2.2.1 q (List.mem_of_getElem? hq)).2
        exact (List.getElem?_eq_some_iff.mp hA).1
      have hdl := qg_dropQs_len a (C.2.1.drop (j + 1))
      rw [List.length_drop] at hdl
      rw [qg_take hq, List.append_assoc, List.singleton_append] at hC1
      have ih := fun M2 => ih M2 (by omega)
      simp only [qg_drop_cons hq, qg_dropQs_cons] at ih
      have hqj : qr_Q M1 (8 * c + (j : Int).toNat) q := hC1.2.2.2.1 j q (by
        show (List.take j C.2.1 ++ q :: _)[j]? = some q
        rw [List.getElem?_append_right (by omega), hlen, Nat.sub_self]; rfl)
      have ea : M1.1 5 (8 * c + (j : Int).toNat) 0 = (q.1 : Int) := hqj.1
      refine go_X1_dropArticle [16] 50 ?_
      refine And.intro (fun c1 => absurd c1 (by omega)) (fun _ => ?_)
      refine And.intro (by omega) ?_
      refine And.intro (fun c2 => ?_) (fun c2 => ?_)
      · have hne : ¬ q.1 = a := by omega
        rw [if_neg hne] at ih
        refine And.intro (by omega) ?_
        refine And.intro (fun c3 => ?_) (fun c3 => ?_)
        · refine And.intro (by omega) ?_
          refine ih M1 ?_ hO _ (by omega)
          have : qg_dec a q = q := by unfold qg_dec; rw [if_neg (by omega)]
          rw [this]; exact hC1
        · refine And.intro (by omega) ?_
          refine And.intro (by omega) ?_
          refine And.intro (by omega) ?_
          refine ih _ ?_ (hO.up (by show qf_C c 5 (8 * c + j); unfold qf_C; omega)) _ (by omega)
          have hs := hC1.setQ (n := j) (q' := qg_dec a q) (M' := (mv_up M1.1 5 (8 * c + j) 0 (M1.1 5 (8 * c + (j : Int).toNat) 0 - 1), M1.2)) ?_ (fun t k i hn => mv_up_ne (fun z => hn ⟨z.1, z.2.1⟩))
          · have e := qg_set_mid (C.2.1.take j) q (qg_dec a q) (qg_dropQs a (C.2.1.drop (j + 1)))
            rw [hlen] at e
            have hs2 : qr_C _ c (C.1, (List.take j C.2.1 ++ q :: qg_dropQs a (List.drop (j + 1) C.2.1)).set j (qg_dec a q), C.2.2) := hs
            rw [e] at hs2
            exact hs2
          · have hd : qg_dec a q = (q.1 - 1, q.2) := by unfold qg_dec; rw [if_pos (by omega)]
            rw [hd]
            refine ⟨?_, ?_, ?_, ?_, ?_⟩
            · rw [ea]; simp [mv_up]; omega
            · simpa [mv_up] using hqj.2.1
            · simpa [mv_up] using hqj.2.2.1
            · simpa [mv_up] using hqj.2.2.2.1
            · have := hqj.2.2.2.2
              cases ho : q.2.2.2.2 with
              | none =>
                rw [ho] at this
                have this : M1.1 5 (8 * c + j) 4 = 0 := this
                show _ = (0 : Int)
                simpa [mv_up] using this
              | some p =>
                rw [ho] at this
                obtain ⟨p1, p2, p3, p4⟩ := (this : M1.1 5 (8 * c + j) 4 = 1 ∧ M1.1 5 (8 * c + j) 5 = (p.1 : Int) ∧ M1.1 5 (8 * c + j) 6 = (p.2.1 : Int) ∧ M1.1 5 (8 * c + j) 7 = (p.2.2 : Int))
                refine ⟨?_, ?_, ?_, ?_⟩
                · simpa [mv_up] using p1
                · simpa [mv_up] using p2
                · simpa [mv_up] using p3
                · simpa [mv_up] using p4
      · have heq : q.1 = a := by omega
        rw [if_pos heq] at ih
        refine sp_X1_dropQuote (n := j) rfl hC1 ?_ w1 ?_ (fun M2 hC2 hO2 => ?_)
        · show j < (List.take j C.2.1 ++ q :: _).length
          rw [List.length_append, hlen, List.length_cons]; omega
        · show (List.take j C.2.1 ++ q :: _).length ≤ 8
          rw [List.length_append, hlen, List.length_cons]; omega
        · refine And.intro (by omega) ?_
          refine ih M2 ?_ (hO.tr hO2) _ (by omega)
          have e := qg_erase_mid (C.2.1.take j) q (qg_dropQs a (C.2.1.drop (j + 1)))
          rw [hlen] at e
          have hs2 : qr_C M2 c (C.1, (List.take j C.2.1 ++ q :: qg_dropQs a (List.drop (j + 1) C.2.1)).eraseIdx j, C.2.2) := hC2
          rw [e] at hs2
          exact hs2
  refine And.intro (by omega) ?_
  refine l1 C.2.1.length M (Nat.le_refl _) ?_ mv_off.rf _ (by omega)
  rw [List.take_length, List.drop_length]
  have : qg_dropQs a [] = [] := rfl
  rw [this, List.append_nil]
  exact hC
