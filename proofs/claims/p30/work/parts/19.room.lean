/-! The trial of lengths. -/
def qg_setL (C : qg_C) (a L : Nat) : qg_C := match C.1[a]? with
  | none => C
  | some A => (C.1.set a (A.1, L, A.2.2), C.2)
theorem qg_setL_eq {C : qg_C} {a : Nat} {A : qg_A} (h : C.1[a]? = some A) (L : Nat) : qg_setL C a L = (C.1.set a (A.1, L, A.2.2), C.2) := by
  unfold qg_setL; rw [h]
theorem qg_setL_len (C : qg_C) (a L : Nat) : (qg_setL C a L).1.length = C.1.length := by
  unfold qg_setL
  split
  · rfl
  · simp
theorem qg_setL_self {C : qg_C} {a : Nat} {A : qg_A} (h : C.1[a]? = some A) : qg_setL C a A.2.1 = C := by
  rw [qg_setL_eq h]
  obtain ⟨h1, h2⟩ := List.getElem?_eq_some_iff.mp h
  have : C.1.set a (A.1, A.2.1, A.2.2) = C.1 := by
    rw [show (A.1, A.2.1, A.2.2) = A from rfl, ← h2]
    exact List.set_getElem_self h1
  rw [this]
theorem qg_own_set {as : List qg_A} {a : Nat} {A B : qg_A} {q : qg_Q} (h : as[a]? = some A) (hl : A.2.2 = B.2.2) (ho : qg_own as q) : qg_own (as.set a B) q := by
  obtain ⟨X, hX, hs⟩ := ho
  have hlt := (List.getElem?_eq_some_iff.mp h).1
  unfold qg_own
  rw [List.getElem?_set]
  by_cases e : a = q.1
  · rw [if_pos e, if_pos hlt]
    rw [← e, h] at hX
    cases hX
    exact ⟨B, rfl, by rw [← hl]; exact hs⟩
  · rw [if_neg e]
    exact ⟨X, hX, hs⟩
theorem qg_wC_setA {C : qg_C} (hw : qg_wC C) {a : Nat} {A B : qg_A} (h : C.1[a]? = some A) (hB : qg_wA B) (hl : A.2.2 = B.2.2) : qg_wC (C.1.set a B, C.2) := by
  refine ⟨by show (C.1.set a B).length ≤ 6; rw [List.length_set]; exact hw.1, hw.2.1, fun x hx => ?_, fun q hq => ⟨(hw.2.2.2.1 q hq).1, qg_own_set h hl (hw.2.2.2.1 q hq).2⟩, hw.2.2.2.2⟩
  rcases List.mem_or_eq_of_mem_set (show x ∈ C.1.set a B from hx) with hx | hx
  · exact hw.2.2.1 x hx
  · rw [hx]; exact hB
theorem qg_wC_setL {C : qg_C} (hw : qg_wC C) {a L : Nat} {A : qg_A} (h : C.1[a]? = some A) (h1 : A.2.1 ≤ L) (h2 : L ≤ 200) : qg_wC (qg_setL C a L) := by
  rw [qg_setL_eq h]
  have hA := hw.2.2.1 A (List.mem_of_getElem? h)
  have a1 := hA.2.1
  exact qg_wC_setA hw h ⟨hA.1, by show 1 ≤ L; omega, h2, hA.2.2.2.1, fun l hl => Nat.lt_of_lt_of_le (hA.2.2.2.2 l hl) h1⟩ rfl
theorem qr_C.setA {M M' : mv_M} {c n : Nat} {C : qg_C} {B : qg_A} (hC : qr_C M c C) (hq : qr_A M' (6 * c + n) B) (ho : ∀ t j k, ¬ ((t = 0 ∨ t = 15) ∧ j = 6 * c + n) → M'.1 t j k = M.1 t j k) : qr_C M' c (C.1.set n B, C.2) := by
  refine ⟨?_, (ho _ _ _ (by omega)).trans hC.2.1, fun i a hi => ?_, fun i q hq => (hC.2.2.2.1 i q hq).fr (fun k => ho _ _ _ (by omega)), (ho _ _ _ (by omega)).trans hC.2.2.2.2.1, (ho _ _ _ (by omega)).trans hC.2.2.2.2.2.1, (ho _ _ _ (by omega)).trans hC.2.2.2.2.2.2⟩
  · show _ = ((C.1.set n B).length : Int)
    rw [List.length_set]
    exact (ho _ _ _ (by omega)).trans hC.1
  · have hi2 : (C.1.set n B)[i]? = some a := hi
    rw [List.getElem?_set] at hi2
    by_cases hn : n = i
    · subst hn
      rw [if_pos rfl] at hi2
      split at hi2
      · cases hi2; exact hq
      · cases hi2
    · rw [if_neg hn] at hi2
      exact (hC.2.2.1 i a hi2).fr (fun k => ho _ _ _ (by omega)) (fun k => ho _ _ _ (by omega))
/-- r is a length that fits, and r + 1 is none (or r is 200) -/
def qg_room (C : qg_C) (a had r : Nat) : Prop := had ≤ r ∧ r ≤ 200 ∧ (r = had ∨ ¬ qg_more (qg_setL C a r) C) ∧ (r = 200 ∨ qg_more (qg_setL C a (r + 1)) C)
set_option maxRecDepth 100000 in
theorem sp_X9_greatestLength {c a : Nat} {C : qg_C} {A : qg_A} {M : mv_M} {Q : mv_R} (hc : c ≠ 18) (hC : qr_C M c C) (hw : qg_wC C) (hA : C.1[a]? = some A) (h : ∀ (M' : mv_M) (r : Nat), qg_room C a A.2.1 r → mv_off qf_T M M' → Q (some (.inl (r : Int))) M') : E_X9_greatestLength [.inr (9, 0), .inr (1, c), .inl (a : Int)] M Q := by
  refine ev_X9_greatestLength ?_
  refine go_X9_greatestLength [43] 60 ?_
  have w6 := hw.1
  have hlt := (List.getElem?_eq_some_iff.mp hA).1
  have hwA := hw.2.2.1 A (List.mem_of_getElem? hA)
  have a1 := hwA.2.1
  have a2 := hwA.2.2.1
  refine sp_X1_copyFrom (fun z => hc z.symm) hC hw (fun M1 hC1 hO1 => ?_)
  refine sp_X4_arrange hC1 hw (fun M2 hL2 hO2 => ?_)
  have hC2 : qr_C M2 18 C := hC1.fr hw (fun t j k hf => hO2.1 t j k (fun z => qf_LC z hf))
  have hF2 : mv_off qf_T M M2 := (hO1.wk (fun t j z => Or.inr (Or.inl z))).tr (hO2.wk (fun t j z => Or.inr (Or.inr (Or.inl z))))
  refine And.intro (by omega) ?_
  have eL : M2.1 0 (6 * 18 + (a : Int).toNat) 2 = (A.2.1 : Int) := (hC2.2.2.1 a A hA).2.1
  have hl : ∀ (i : Nat) (s : mv_M × Nat × Nat), i ≤ 200 → (mv_off qf_T M s.1 ∧ qr_L s.1 0 C ∧ (∃ L, A.2.1 ≤ L ∧ L ≤ 200 ∧ qr_C s.1 18 (qg_setL C a L)) ∧ A.2.1 ≤ s.2.1 ∧ s.2.1 < s.2.2 ∧ s.2.2 ≤ 201 ∧ s.2.2 + i ≤ s.2.1 + 201 ∧ (s.2.1 = A.2.1 ∨ ¬ qg_more (qg_setL C a s.2.1) C) ∧ (s.2.2 = 201 ∨ qg_more (qg_setL C a s.2.2) C)) →
      ∀ (f t : Int) (o : Option mv_V), f = (s.2.1 : Int) → t = (s.2.2 : Int) → J_X9_greatestLength Q 43 [some (.inr (9, 0)), some (.inr (1, c)), some (.inl (a : Int)), some (.inr (0, 6 * 18 + a)), some (.inl f), some (.inl t), some (.inl (i : Int)), o] [] s.1 := by
    refine mv_loop 200 (fun i s hi ih hI f t o hf ht => ?_)
    obtain ⟨M3, F, T⟩ := s
    obtain ⟨hO3, hL3, ⟨L, b1, b2, hC3⟩, g1, g2, g3, g4, g5, g6⟩ := hI
    dsimp only at hO3 hL3 hC3 g1 g2 g3 g4 g5 g6 hf ht ⊢
    subst hf; subst ht
    have fin : T = F + 1 → J_X9_greatestLength Q 117 [some (.inr (9, 0)), some (.inr (1, c)), some (.inl (a : Int)), some (.inr (0, 6 * 18 + a)), some (.inl (F : Int)), some (.inl (T : Int)), some (.inl (i : Int)), o] [] M3 := by
      intro e
      subst e
      refine go_X9_greatestLength [] 60 ?_
      refine h M3 F ⟨g1, by omega, g5, ?_⟩ hO3
      rcases g6 with z | z
      · exact Or.inl (by omega)
      · exact Or.inr z
    refine go_X9_greatestLength [43, 117] 60 ?_
    refine And.intro (fun c1 => fin (by omega)) (fun c1 => ?_)
    refine And.intro (by omega) ?_
    refine And.intro (fun c2 => fin (by omega)) (fun c2 => ?_)
    refine And.intro (by omega) ?_
    refine And.intro (by omega) ?_
    obtain ⟨m, hm⟩ : ∃ m : Nat, m = (F + T) / 2 := ⟨_, rfl⟩
    have em : ((F : Int) + (T : Int)) / 2 = (m : Int) := by omega
    rw [em]
    have hLA : (qg_setL C a L).1[a]? = some (A.1, L, A.2.2) := by
      rw [qg_setL_eq hA]
      show (C.1.set a _)[a]? = _
      rw [List.getElem?_set_self hlt]
    have hAr := hC3.2.2.1 a _ hLA
    have hC4 : qr_C (mv_up M3.1 0 (6 * 18 + a) 2 (m : Int), M3.2) 18 (qg_setL C a m) := by
      have := hC3.setA (n := a) (B := (A.1, m, A.2.2)) (M' := (mv_up M3.1 0 (6 * 18 + a) 2 (m : Int), M3.2)) ⟨?_, ?_, ?_, fun k l hk => ?_⟩ (fun t j k hn => mv_up_ne (fun z => hn ⟨Or.inl z.1, z.2.1⟩))
      · rw [qg_setL_eq hA] at this
        have this : qr_C _ 18 ((C.1.set a _).set a _, C.2) := this
        rw [List.set_set] at this
        rw [qg_setL_eq hA]
        exact this
      · simpa [mv_up] using hAr.1
      · simp [mv_up]
      · simpa [mv_up] using hAr.2.2.1
      · simpa [mv_up] using hAr.2.2.2 k l hk
    have hwm := qg_wC_setL hw hA (L := m) (by omega) (by omega)
    have hL3' : qr_L (mv_up M3.1 0 (6 * 18 + a) 2 (m : Int), M3.2) 0 C := hL3.fr w6 (fun t j k hf => mv_up_ne (fun z => by unfold qf_L at hf; omega))
    refine sp_X4_arrange hC4 hwm (fun M4 hL4 hO4 => ?_)
    have hC5 : qr_C M4 18 (qg_setL C a m) := hC4.fr hwm (fun t j k hf => hO4.1 t j k (fun z => qf_LC z hf))
    have hL5 : qr_L M4 0 C := hL3'.fr w6 (fun t j k hf => hO4.1 t j k (by unfold qf_L at *; omega))
    have hF5 : mv_off qf_T M M4 := (hO3.up (Or.inr (Or.inl (by unfold qf_C; omega)))).tr (hO4.wk (fun t j z => Or.inr (Or.inr (Or.inr z))))
    refine sp_X4_isMoreOverset hL4 hwm hL5 hw (by rw [qg_setL_len]) (fun c3 => mv_t ?_) (fun c3 => mv_f ?_)
    · refine And.intro (by omega) ?_
      exact ih (M4, F, m) (by omega) ⟨hF5, hL5, ⟨m, by omega, by omega, hC5⟩, g1, by show F < m; omega, by show m ≤ 201; omega, by show m + (i + 1) ≤ F + 201; omega, g5, Or.inr c3⟩ _ _ _ rfl rfl
    · refine And.intro (by omega) ?_
      exact ih (M4, m, T) (by omega) ⟨hF5, hL5, ⟨m, by omega, by omega, hC5⟩, by show A.2.1 ≤ m; omega, by show m < T; omega, g3, by show T + (i + 1) ≤ m + 201; omega, Or.inr c3, g6⟩ _ _ _ rfl rfl
  have hself : qr_C M2 18 (qg_setL C a A.2.1) := by rw [qg_setL_self hA]; exact hC2
  exact hl 0 (M2, A.2.1, 201) (by omega) ⟨hF2, hL2, ⟨A.2.1, Nat.le_refl _, a2, hself⟩, Nat.le_refl _, by show A.2.1 < 201; omega, by show 201 ≤ 201; omega, by show 201 + 0 ≤ A.2.1 + 201; omega, Or.inl rfl, Or.inl rfl⟩ _ _ none eL rfl
