/-! The trial of places. -/
noncomputable def qg_if {α : Type} (p : Prop) (a b : α) : α := @ite α p (Classical.propDecidable p) a b
theorem qg_if_pos {α : Type} {p : Prop} (h : p) (a b : α) : qg_if p a b = a := @if_pos p (Classical.propDecidable p) h α a b
theorem qg_if_neg {α : Type} {p : Prop} (h : ¬ p) (a b : α) : qg_if p a b = b := @if_neg p (Classical.propDecidable p) h α a b
/-- a quote with another place -/
def qg_put (C : qg_C) (n : Nat) (o : Option (Nat × Nat × Nat)) : qg_C := match C.2.1[n]? with
  | none => C
  | some q => (C.1, C.2.1.set n (qg_mv q o), C.2.2)
theorem qg_put_eq {C : qg_C} {n : Nat} {q : qg_Q} (h : C.2.1[n]? = some q) (o : Option (Nat × Nat × Nat)) : qg_put C n o = (C.1, C.2.1.set n (qg_mv q o), C.2.2) := by
  unfold qg_put; rw [h]
theorem qg_put_1 (C : qg_C) (n : Nat) (o : Option (Nat × Nat × Nat)) : (qg_put C n o).1 = C.1 := by
  unfold qg_put; split <;> rfl
theorem qg_put_r (C : qg_C) (n : Nat) (o : Option (Nat × Nat × Nat)) : (qg_put C n o).2.2 = C.2.2 := by
  unfold qg_put; split <;> rfl
theorem qg_put_len (C : qg_C) (n : Nat) (o : Option (Nat × Nat × Nat)) : (qg_put C n o).2.1.length = C.2.1.length := by
  unfold qg_put
  split
  · rfl
  · simp
theorem qg_put_at {C : qg_C} {n : Nat} {q : qg_Q} (h : C.2.1[n]? = some q) (o : Option (Nat × Nat × Nat)) : (qg_put C n o).2.1[n]? = some (qg_mv q o) := by
  rw [qg_put_eq h]
  have hl := (List.getElem?_eq_some_iff.mp h).1
  show (C.2.1.set n (qg_mv q o))[n]? = _
  rw [List.getElem?_set_self hl]
theorem qg_put_ne {C : qg_C} {n i : Nat} (o : Option (Nat × Nat × Nat)) (hi : i ≠ n) : (qg_put C n o).2.1[i]? = C.2.1[i]? := by
  unfold qg_put
  split
  · rfl
  · show (C.2.1.set n _)[i]? = _
    rw [List.getElem?_set_ne (Ne.symm hi)]
theorem qg_put_put (C : qg_C) (n : Nat) (o o2 : Option (Nat × Nat × Nat)) : qg_put (qg_put C n o) n o2 = qg_put C n o2 := by
  cases h : C.2.1[n]? with
  | none =>
    have e : ∀ o, qg_put C n o = C := fun o => by unfold qg_put; rw [h]
    rw [e, e]
  | some q =>
    rw [qg_put_eq (qg_put_at h o), qg_put_eq h o2, qg_put_1, qg_put_r, qg_put_eq h o]
    show (C.1, (C.2.1.set n _).set n _, C.2.2) = _
    rw [List.set_set]
def qg_okp (o : Option (Nat × Nat × Nat)) : Prop := ∀ p, o = some p → p.1 < 3 ∧ p.2.1 < 6 ∧ p.2.2 < 20
theorem qg_wQ_mv {q : qg_Q} (h : qg_wQ q) {o : Option (Nat × Nat × Nat)} (ho : qg_okp o) : qg_wQ (qg_mv q o) := ⟨h.1, h.2.1, h.2.2.1, h.2.2.2.1, ho⟩
theorem qg_wC_put {C : qg_C} (hw : qg_wC C) (n : Nat) {o : Option (Nat × Nat × Nat)} (ho : qg_okp o) : qg_wC (qg_put C n o) := by
  cases h : C.2.1[n]? with
  | none =>
    have e : qg_put C n o = C := by unfold qg_put; rw [h]
    rw [e]; exact hw
  | some q =>
    have hq := hw.2.2.2.1 q (List.mem_of_getElem? h)
    refine ⟨by rw [qg_put_1]; exact hw.1, by rw [qg_put_len]; exact hw.2.1, by rw [qg_put_1]; exact hw.2.2.1, fun r hr => ?_, by rw [qg_put_r]; exact hw.2.2.2.2⟩
    rw [qg_put_1]
    rw [qg_put_eq h] at hr
    have hr : r ∈ C.2.1.set n (qg_mv q o) := hr
    rcases List.mem_or_eq_of_mem_set hr with hr | hr
    · exact hw.2.2.2.1 r hr
    · rw [hr]; exact ⟨qg_wQ_mv hq.1 ho, hq.2⟩
theorem qr_C.put {M M' : mv_M} {c n : Nat} {C : qg_C} {q : qg_Q} {o : Option (Nat × Nat × Nat)} (hC : qr_C M c C) (h : C.2.1[n]? = some q) (hq : qr_Q M' (8 * c + n) (qg_mv q o)) (ho : ∀ t j k, ¬ (t = 5 ∧ j = 8 * c + n) → M'.1 t j k = M.1 t j k) : qr_C M' c (qg_put C n o) := by
  rw [qg_put_eq h]
  exact hC.setQ hq ho
theorem qg_okp_at {m : Nat} (h : m < 360) : qg_okp (some (qg_at m)) := by
  intro p hp
  cases hp
  show m / 120 < 3 ∧ m % 120 / 20 < 6 ∧ m % 20 < 20
  omega
theorem qg_okp_none : qg_okp none := fun p hp => by cases hp
/-- the distance of two quotes -/
def qg_qd (q r : qg_Q) (p o : Nat × Nat × Nat) : Nat := max (qg_gap p.2.1 q.2.2.1 o.2.1 r.2.2.1) (qg_gap p.2.2 q.2.2.2.1 o.2.2 r.2.2.2.1)
/-- the quote n is too near to another one -/
def qg_near (D : qg_C) (n : Nat) : Prop := ∃ (i : Nat) (q r : qg_Q) (p o : Nat × Nat × Nat), i ≠ n ∧ D.2.1[n]? = some q ∧ D.2.1[i]? = some r ∧ q.2.2.2.2 = some p ∧ r.2.2.2.2 = some o ∧ o.1 = p.1 ∧ qg_qd q r p o < D.2.2.2.2
/-- a quote is at a bad distance from its sentence -/
def qg_bad (D : qg_C) (q : qg_Q) : Prop := ∃ d, qg_dist D q = some d ∧ ¬ (D.2.2.1 ≤ d ∧ d ≤ D.2.2.2.1)
def qg_badO (D : qg_C) (n : Nat) : Prop := ∃ (i : Nat) (r : qg_Q), i ≠ n ∧ D.2.1[i]? = some r ∧ qg_bad D r
def qg_line (D : qg_C) (n : Nat) (p : Nat) : Prop := ∃ q, D.2.1[n]? = some q ∧ 0 < qg_onp p (qg_ls D q.1)
def qg_badN (D : qg_C) (n : Nat) : Prop := ∃ q, D.2.1[n]? = some q ∧ qg_bad D q
def qg_out (C : qg_C) (n : Nat) (p : Nat × Nat × Nat) : Prop := ∃ q, C.2.1[n]? = some q ∧ (6 < p.2.1 + q.2.2.1 ∨ 20 < p.2.2 + q.2.2.2.1)
/-- the reason for which a place for the quote n is refused -/
noncomputable def qg_reason (C : qg_C) (n : Nat) (p : Nat × Nat × Nat) : Int :=
  qg_if (qg_out C n p) 1 (qg_if (qg_near (qg_put C n (some p)) n) 2 (qg_if (qg_more (qg_put C n (some p)) (qg_put C n none)) 3 (qg_if (¬ qg_line (qg_put C n (some p)) n p.1) 4 (qg_if (qg_badN (qg_put C n (some p)) n) 5 (qg_if (qg_badO (qg_put C n (some p)) n) 6 0)))))
theorem qg_reason_b (C : qg_C) (n : Nat) (p : Nat × Nat × Nat) : 0 ≤ qg_reason C n p ∧ qg_reason C n p ≤ 6 := by
  unfold qg_reason
  by_cases h1 : qg_out C n p
  · rw [qg_if_pos h1]; omega
  rw [qg_if_neg h1]
  by_cases h2 : qg_near (qg_put C n (some p)) n
  · rw [qg_if_pos h2]; omega
  rw [qg_if_neg h2]
  by_cases h3 : qg_more (qg_put C n (some p)) (qg_put C n none)
  · rw [qg_if_pos h3]; omega
  rw [qg_if_neg h3]
  by_cases h4 : ¬ qg_line (qg_put C n (some p)) n p.1
  · rw [qg_if_pos h4]; omega
  rw [qg_if_neg h4]
  by_cases h5 : qg_badN (qg_put C n (some p)) n
  · rw [qg_if_pos h5]; omega
  rw [qg_if_neg h5]
  by_cases h6 : qg_badO (qg_put C n (some p)) n
  · rw [qg_if_pos h6]; omega
  rw [qg_if_neg h6]; omega
def qf_T (t j : Nat) : Prop := t = 9 ∨ qf_C 18 t j ∨ qf_L 0 t j ∨ qf_L 1 t j
/-- the trial is made ready for the quote n of C; its present place is o -/
def qr_T (M : mv_M) (C : qg_C) (n : Nat) (o : Option (Nat × Nat × Nat)) : Prop := qr_C M 18 (qg_put C n o) ∧ M.1 9 0 3 = (n : Int) ∧ qr_L M 0 (qg_put C n none)
set_option maxRecDepth 100000 in
theorem sp_X9_prepare {c n : Nat} {C : qg_C} {x : Int} {M : mv_M} {Q : mv_R} (hx : x = (n : Int)) (hc : c ≠ 18) (hC : qr_C M c C) (hw : qg_wC C) (hn : n < C.2.1.length) (h : ∀ M', qr_T M' C n none → mv_off qf_T M M' → Q none M') : E_X9_prepare [.inr (9, 0), .inr (1, c), .inl x] M Q := by
  subst hx
  refine ev_X9_prepare ?_
  refine go_X9_prepare [] 60 ?_
  have w8 := hw.2.1
  obtain ⟨q, hq⟩ := qg_some hn
  refine sp_X1_copyFrom (fun z => hc z.symm) hC hw (fun M1 hC1 hO1 => ?_)
  refine And.intro (by simp only [mv_up_eq]; omega) ?_
  refine And.intro (Or.inl rfl) ?_
  have e : (mv_up M1.1 9 0 3 (n : Int) 9 0 3).toNat = n := by rw [mv_up_eq]; omega
  rw [e]
  have hqr := hC1.2.2.2.1 n q hq
  have hP : qr_C (mv_up (mv_up M1.1 9 0 3 (n : Int)) 5 (8 * 18 + n) 4 0, M1.2) 18 (qg_put C n none) := by
    have hC2 : qr_C (mv_up M1.1 9 0 3 (n : Int), M1.2) 18 C := hC1.fr hw (fun t j k hf => mv_up_ne (fun z => by unfold qf_C at hf; omega))
    refine hC2.put hq ⟨?_, ?_, ?_, ?_, ?_⟩ (fun t j k hn => mv_up_ne (fun z => hn ⟨z.1, z.2.1⟩))
    · simpa [mv_up] using hqr.1
    · simpa [mv_up] using hqr.2.1
    · simpa [mv_up] using hqr.2.2.1
    · simpa [mv_up] using hqr.2.2.2.1
    · show _ = (0 : Int)
      simp [mv_up]
  refine sp_X4_arrange hP (qg_wC_put hw n qg_okp_none) (fun M2 hL2 hO2 => ?_)
  refine h M2 ⟨hP.fr (qg_wC_put hw n qg_okp_none) (fun t j k hf => hO2.1 t j k (fun z => qf_LC z hf)), ?_, hL2⟩ ?_
  · rw [hO2.1 _ _ _ (by unfold qf_L; omega)]
    simp [mv_up]
  · have hF : mv_off qf_T M M1 := hO1.wk (fun t j z => Or.inr (Or.inl z))
    have hF2 : mv_off qf_T M (mv_up M1.1 9 0 3 (n : Int), M1.2) := hF.up (Or.inl rfl)
    have hF3 : mv_off qf_T M (mv_up (mv_up M1.1 9 0 3 (n : Int)) 5 (8 * 18 + n) 4 0, M1.2) := hF2.up (Or.inr (Or.inl (by unfold qf_C; omega)))
    exact hF3.tr (hO2.wk (fun t j z => Or.inr (Or.inr (Or.inl z))))
set_option maxRecDepth 100000 in
theorem sp_X9_unrestAt {n m : Nat} {C : qg_C} {o : Option (Nat × Nat × Nat)} {M : mv_M} {Q : mv_R} (hT : qr_T M C n o) (hw : qg_wC C) (hn : n < C.2.1.length) (hm : m < 360) (h : ∀ M', qr_T M' C n (some (qg_at m)) → mv_off (fun t j => t = 5 ∧ j = 8 * 18 + n) M M' → Q (some (.inl (qg_unrest (qg_put C n (some (qg_at m))).2.1))) M') : E_X9_unrestAt [.inr (9, 0), .inl (m : Int)] M Q := by
  refine ev_X9_unrestAt ?_
  refine go_X9_unrestAt [] 60 ?_
  have w8 := hw.2.1
  obtain ⟨q, hq⟩ := qg_some hn
  obtain ⟨hC, e3, hL⟩ := hT
  have hq2 := qg_put_at hq o
  refine And.intro (by omega) ?_
  have e : (M.1 9 0 3).toNat = n := by omega
  rw [e]
  refine sp_X5_moveTo (m := m) rfl (hC.2.2.2.1 n _ hq2) (fun M1 hq1 hO1 => ?_)
  have hwp := qg_wC_put hw n (qg_okp_at hm)
  have hC1 : qr_C M1 18 (qg_put C n (some (qg_at m))) := by
    have := hC.put (n := n) (o := some (qg_at m)) hq2 hq1 (fun t j k hn => hO1.1 t j k hn)
    rw [qg_put_put] at this
    exact this
  refine sp_X1_unrest hC1 (by rw [qg_put_len]; exact w8) (fun r hr => (hwp.2.2.2.1 r hr).1) ?_
  exact h M1 ⟨hC1, (hO1.1 _ _ _ (by omega)).trans e3, hL.fr (by rw [qg_put_1]; exact hw.1) (fun t j k hf => hO1.1 t j k (by unfold qf_L at hf; omega))⟩ hO1
set_option maxRecDepth 100000 in
theorem sp_X9_isTooNearToAnother {n : Nat} {D : qg_C} {q : qg_Q} {p : Nat × Nat × Nat} {M : mv_M} {Q : mv_R} (hC : qr_C M 18 D) (e3 : M.1 9 0 3 = (n : Int)) (hw : qg_wC D) (hq : D.2.1[n]? = some q) (hp : q.2.2.2.2 = some p) (h1 : qg_near D n → Q (some (.inl 1)) M) (h0 : ¬ qg_near D n → Q (some (.inl 0)) M) : E_X9_isTooNearToAnother [.inr (9, 0), .inr (5, 8 * 18 + n)] M Q := by
  refine ev_X9_isTooNearToAnother ?_
  refine go_X9_isTooNearToAnother [2] 60 ?_
  have w8 := hw.2.1
  have hqr := hC.2.2.2.1 n q hq
  have hP := hqr.2.2.2.2
  rw [hp] at hP
  have hwq := (hw.2.2.2.1 q (List.mem_of_getElem? hq)).1
  have hl : ∀ (i : Nat) (s : Unit), i ≤ D.2.1.length → (∀ k r o, k < i → k ≠ n → D.2.1[k]? = some r → r.2.2.2.2 = some o → o.1 = p.1 → ¬ qg_qd q r p o < D.2.2.2.2) → ∀ x : Option mv_V, J_X9_isTooNearToAnother Q 2 [some (.inr (9, 0)), some (.inr (5, 8 * 18 + n)), some (.inl (i : Int)), x] [] M := by
    refine mv_loop D.2.1.length (fun i _ hi ih hk x => ?_)
    refine go_X9_isTooNearToAnother [2, 68] 60 ?_
    have e4 := hC.2.1
    refine And.intro (fun c1 => ?_) (fun c1 => ?_)
    · have : i = D.2.1.length := by omega
      refine And.intro (Or.inl rfl) (h0 ?_)
      rintro ⟨k, q', r, p', o, z1, z2, z3, z4, z5, z6, z7⟩
      rw [hq] at z2
      cases z2
      rw [hp] at z4
      cases z4
      exact hk k r o (by have := (List.getElem?_eq_some_iff.mp z3).1; omega) z1 z3 z5 z6 z7
    · have hlt : i < D.2.1.length := by omega
      obtain ⟨r, hr⟩ := qg_some hlt
      have hrr := hC.2.2.2.1 i r hr
      have hR := hrr.2.2.2.2
      have hwr := (hw.2.2.2.1 r (List.mem_of_getElem? hr)).1
      have next : (i ≠ n → ∀ o, r.2.2.2.2 = some o → o.1 = p.1 → ¬ qg_qd q r p o < D.2.2.2.2) → J_X9_isTooNearToAnother Q 68 [some (.inr (9, 0)), some (.inr (5, 8 * 18 + n)), some (.inl (i : Int)), some (.inr (5, 8 * 18 + i))] [] M := by
        intro hno
        refine go_X9_isTooNearToAnother [2] 60 ?_
        refine And.intro (by omega) ?_
        refine ih () hlt (fun k s o hki hkn hs ho => ?_) _
        by_cases hki2 : k = i
        · subst hki2
          rw [hr] at hs
          cases hs
          exact hno hkn o ho
        · exact hk k s o (by omega) hkn hs ho
      refine And.intro (by omega) ?_
      refine And.intro (fun c2 => next (fun z => absurd (by omega : i = n) z)) (fun c2 => ?_)
      have hin : i ≠ n := by omega
      refine And.intro (fun c3 => next (fun _ o ho => ?_)) (fun c3 => ?_)
      · rw [ho] at hR
        have : M.1 5 (8 * 18 + (i : Int).toNat) 4 = 1 := hR.1
        omega
      cases ho : r.2.2.2.2 with
      | none => rw [ho] at hR; exact absurd hR c3
      | some o =>
        rw [ho] at hR
        have g5 : M.1 5 (8 * 18 + (i : Int).toNat) 5 = (o.1 : Int) := hR.2.1
        have p5 : M.1 5 (8 * 18 + n) 5 = (p.1 : Int) := hP.2.1
        refine And.intro (fun c4 => next (fun _ o' ho' z => ?_)) (fun c4 => ?_)
        · rw [ho] at ho'
          cases ho'
          omega
        refine sp_X5_distanceFromQuote hqr hwq hp hrr hwr ho ?_
        have eg : M.1 14 18 (2 : Int).toNat = (D.2.2.2.2 : Int) := hC.2.2.2.2.2.2
        refine And.intro (by omega) ?_
        refine And.intro (fun c5 => next (fun _ o' ho' _ => ?_)) (fun c5 => ?_)
        · rw [ho] at ho'
          cases ho'
          unfold qg_qd
          omega
        · exact And.intro (Or.inr rfl) (h1 ⟨i, q, r, p, o, hin, hq, hr, hp, ho, by omega, by unfold qg_qd; omega⟩)
  exact hl 0 () (Nat.zero_le _) (fun k r o hk => absurd hk (by omega)) _
set_option maxRecDepth 100000 in
theorem sp_X9_isBadlyDistant {a : Nat} {D : qg_C} {q : qg_Q} {M : mv_M} {Q : mv_R} (hL : qr_L M 1 D) (hC : qr_C M 18 D) (hw : qg_wC D) (hq : qr_Q M a q) (hwq : qg_wQ q) (hown : qg_own D.1 q) (h1 : qg_bad D q → Q (some (.inl 1)) M) (h0 : ¬ qg_bad D q → Q (some (.inl 0)) M) : E_X9_isBadlyDistant [.inr (9, 0), .inr (5, a)] M Q := by
  refine ev_X9_isBadlyDistant ?_
  refine go_X9_isBadlyDistant [] 60 ?_
  refine sp_X4_distanceFromSentence hL hC hw hq hwq hown ?_
  have hx : ∀ n : Nat, qg_oi (some n) = (n : Int) := fun n => rfl
  have e0 : M.1 14 18 (0 : Int).toNat = (D.2.2.1 : Int) := hC.2.2.2.2.1
  have e1 : M.1 14 18 (1 : Int).toNat = (D.2.2.2.1 : Int) := hC.2.2.2.2.2.1
  cases hd : qg_dist D q with
  | none =>
    refine And.intro (fun _ => And.intro (Or.inl rfl) (h0 ?_)) (fun c1 => absurd rfl c1)
    rintro ⟨d, hd2, -⟩
    rw [hd] at hd2
    cases hd2
  | some d =>
    refine And.intro (fun c1 => ?_) (fun c1 => ?_)
    · rw [hx] at c1; omega
    · refine And.intro (by omega) ?_
      refine And.intro (by omega) ?_
      refine sp_isWithin (fun c2 => mv_nt ?_) (fun c2 => mv_nf ?_)
      · rw [hx, e0, e1] at c2
        refine And.intro (Or.inl rfl) (h0 ?_)
        rintro ⟨d', hd2, hn⟩
        rw [hd] at hd2
        cases hd2
        exact hn (by omega)
      · rw [hx, e0, e1] at c2
        exact And.intro (Or.inr rfl) (h1 ⟨d, hd, by omega⟩)
theorem qg_bad_placed {D : qg_C} {q : qg_Q} (h : q.2.2.2.2 = none) : ¬ qg_bad D q := by
  rintro ⟨d, hd, -⟩
  unfold qg_dist at hd
  rw [h] at hd
  cases hd
set_option maxRecDepth 100000 in
theorem sp_X9_reasonInLayout {n : Nat} {D B : qg_C} {q : qg_Q} {p : Nat × Nat × Nat} {M : mv_M} {Q : mv_R} (hC : qr_C M 18 D) (e3 : M.1 9 0 3 = (n : Int)) (hw : qg_wC D) (hq : D.2.1[n]? = some q) (hp : q.2.2.2.2 = some p) (hL : qr_L M 1 D) (hB : qr_L M 0 B) (hv : qg_wC B) (hDB : D.1 = B.1)
    (h : Q (some (.inl (qg_if (qg_more D B) 3 (qg_if (¬ qg_line D n p.1) 4 (qg_if (qg_badN D n) 5 (qg_if (qg_badO D n) 6 0)))))) M) : E_X9_reasonInLayout [.inr (9, 0), .inr (5, 8 * 18 + n)] M Q := by
  refine ev_X9_reasonInLayout ?_
  refine go_X9_reasonInLayout [66] 60 ?_
  have w6 := hw.1
  have w8 := hw.2.1
  have hqr := hC.2.2.2.1 n q hq
  have hwq := hw.2.2.2.1 q (List.mem_of_getElem? hq)
  obtain ⟨A, hA, hs⟩ := hwq.2
  have hlt := (List.getElem?_eq_some_iff.mp hA).1
  have e0 := hqr.1
  have eC := hC.1
  have hP := hqr.2.2.2.2
  rw [hp] at hP
  have p5 : M.1 5 (8 * 18 + n) 5 = (p.1 : Int) := hP.2.1
  have pok := hwq.1.2.2.2.2 p hp
  refine sp_X4_isMoreOverset hL hw hB hv (by rw [hDB]) (fun c1 => mv_t ?_) (fun c1 => mv_f ?_)
  · rw [qg_if_pos c1] at h
    exact h
  rw [qg_if_neg c1] at h
  refine And.intro (fun c2 => absurd c2 (by omega)) (fun _ => ?_)
  refine And.intro (by omega) ?_
  have en : (M.1 5 (8 * 18 + n) 0).toNat = q.1 := by omega
  rw [en]
  have hline : qg_line D n p.1 ↔ 0 < qg_onp p.1 (qg_ls D q.1) := ⟨fun ⟨r, hr, z⟩ => by rw [hq] at hr; cases hr; exact z, fun z => ⟨q, hq, z⟩⟩
  refine sp_X2_hasLineOn p5 (hL.at hlt) pok.1 (fun c2 => mv_nt ?_) (fun c2 => mv_nf (by rw [qg_if_pos (fun z => c2 (hline.mp z))] at h; exact h))
  rw [qg_if_neg (fun z => z (hline.mpr c2))] at h
  have hbad : qg_badN D n ↔ qg_bad D q := ⟨fun ⟨r, hr, z⟩ => by rw [hq] at hr; cases hr; exact z, fun z => ⟨q, hq, z⟩⟩
  refine sp_X9_isBadlyDistant hL hC hw hqr hwq.1 hwq.2 (fun c3 => mv_t ?_) (fun c3 => mv_f ?_)
  · rw [qg_if_pos (hbad.mpr c3)] at h
    exact h
  rw [qg_if_neg (fun z => c3 (hbad.mp z))] at h
  have hl : ∀ (i : Nat) (s : Unit), i ≤ D.2.1.length → (∀ k r, k < i → k ≠ n → D.2.1[k]? = some r → ¬ qg_bad D r) → J_X9_reasonInLayout Q 66 [some (.inr (9, 0)), some (.inr (5, 8 * 18 + n)), some (.inl (i : Int))] [] M := by
    refine mv_loop D.2.1.length (fun i _ hi ih hk => ?_)
    refine go_X9_reasonInLayout [66, 104] 60 ?_
    have e4 := hC.2.1
    refine And.intro (fun c4 => ?_) (fun c4 => ?_)
    · rw [qg_if_neg] at h
      · exact h
      · rintro ⟨k, r, z1, z2, z3⟩
        exact hk k r (by have := (List.getElem?_eq_some_iff.mp z2).1; omega) z1 z2 z3
    · have hlt : i < D.2.1.length := by omega
      obtain ⟨r, hr⟩ := qg_some hlt
      have hwr := hw.2.2.2.1 r (List.mem_of_getElem? hr)
      have next : (i ≠ n → ¬ qg_bad D r) → J_X9_reasonInLayout Q 104 [some (.inr (9, 0)), some (.inr (5, 8 * 18 + n)), some (.inl (i : Int))] [] M := by
        intro hno
        refine go_X9_reasonInLayout [66] 60 ?_
        refine And.intro (by omega) ?_
        refine ih () hlt (fun k s hki hkn hs => ?_)
        by_cases hki2 : k = i
        · subst hki2
          rw [hr] at hs
          cases hs
          exact hno hkn
        · exact hk k s (by omega) hkn hs
      refine And.intro (fun c5 => next (fun z => absurd (by omega : i = n) z)) (fun c5 => ?_)
      refine And.intro (by omega) ?_
      refine sp_X9_isBadlyDistant (a := 8 * 18 + (i : Int).toNat) hL hC hw (hC.2.2.2.1 i r hr) hwr.1 hwr.2 (fun c6 => mv_t ?_) (fun c6 => mv_f (next (fun _ => c6)))
      rw [qg_if_pos ⟨i, r, by omega, hr, c6⟩] at h
      exact h
  exact hl 0 () (Nat.zero_le _) (fun k r hk => absurd hk (by omega))
set_option maxRecDepth 100000 in
theorem sp_X9_reasonAt {n m : Nat} {C : qg_C} {o : Option (Nat × Nat × Nat)} {M : mv_M} {Q : mv_R} (hT : qr_T M C n o) (hw : qg_wC C) (hn : n < C.2.1.length) (hm : m < 360) (h : ∀ M', qr_T M' C n (some (qg_at m)) → mv_off qf_T M M' → (∀ k, M'.1 9 0 k = M.1 9 0 k) → Q (some (.inl (qg_reason C n (qg_at m)))) M') : E_X9_reasonAt [.inr (9, 0), .inl (m : Int)] M Q := by
  refine ev_X9_reasonAt ?_
  refine go_X9_reasonAt [46, 48] 60 ?_
  have w8 := hw.2.1
  obtain ⟨q, hq⟩ := qg_some hn
  obtain ⟨hC, e3, hL⟩ := hT
  have hq2 := qg_put_at hq o
  refine And.intro (by omega) ?_
  have e : (M.1 9 0 3).toNat = n := by omega
  rw [e]
  refine sp_X5_moveTo (m := m) rfl (hC.2.2.2.1 n _ hq2) (fun M1 hq1 hO1 => ?_)
  have hwp := qg_wC_put hw n (qg_okp_at hm)
  have hwn := qg_wC_put hw n qg_okp_none
  have hC1 : qr_C M1 18 (qg_put C n (some (qg_at m))) := by
    have := hC.put (n := n) (o := some (qg_at m)) hq2 hq1 (fun t j k hn => hO1.1 t j k hn)
    rw [qg_put_put] at this
    exact this
  have e31 : M1.1 9 0 3 = (n : Int) := (hO1.1 _ _ _ (by omega)).trans e3
  have hL1 : qr_L M1 0 (qg_put C n none) := hL.fr (by rw [qg_put_1]; exact hw.1) (fun t j k hf => hO1.1 t j k (by unfold qf_L at hf; omega))
  have hF1 : mv_off qf_T M M1 := hO1.wk (fun t j z => Or.inr (Or.inl (by have z2 : j = 8 * 18 + n := z.2; have z1 := z.1; unfold qf_C; omega)))
  have h9 : ∀ k, M1.1 9 0 k = M.1 9 0 k := fun k => hO1.1 _ _ _ (by omega)
  have hqd := qg_put_at hq (some (qg_at m))
  have hq1' : qr_Q M1 (8 * 18 + n) (qg_mv q (some (qg_at m))) := hC1.2.2.2.1 n _ hqd
  have hwq := (hw.2.2.2.1 q (List.mem_of_getElem? hq)).1
  have i6 : M1.1 5 (8 * 18 + n) 6 = ((m % 120 / 20 : Nat) : Int) := hq1'.2.2.2.2.2.2.1
  have i7 : M1.1 5 (8 * 18 + n) 7 = ((m % 20 : Nat) : Int) := hq1'.2.2.2.2.2.2.2
  have i2 : M1.1 5 (8 * 18 + n) 2 = (q.2.2.1 : Int) := hq1'.2.2.1
  have i3 : M1.1 5 (8 * 18 + n) 3 = (q.2.2.2.1 : Int) := hq1'.2.2.2.1
  have k1 := hwq.1
  have k2 := hwq.2.1
  have k3 := hwq.2.2.1
  have k4 := hwq.2.2.2.1
  have hout : qg_out C n (qg_at m) ↔ (6 < m % 120 / 20 + q.2.2.1 ∨ 20 < m % 20 + q.2.2.2.1) := ⟨fun ⟨r, hr, z⟩ => by rw [hq] at hr; cases hr; exact z, fun z => ⟨q, hq, z⟩⟩
  have isout : qg_out C n (qg_at m) → J_X9_reasonAt Q 46 [some (.inr (9, 0)), some (.inl (m : Int)), some (.inr (5, 8 * 18 + n))] [] M1 := by
    intro ho
    refine go_X9_reasonAt [] 60 ?_
    have hh := h M1 ⟨hC1, e31, hL1⟩ hF1 h9
    unfold qg_reason at hh
    rw [qg_if_pos ho] at hh
    exact hh
  have isin : ¬ qg_out C n (qg_at m) → J_X9_reasonAt Q 48 [some (.inr (9, 0)), some (.inl (m : Int)), some (.inr (5, 8 * 18 + n))] [] M1 := by
    intro ho
    refine go_X9_reasonAt [] 60 ?_
    refine sp_X9_isTooNearToAnother hC1 e31 hwp hqd rfl (fun c1 => mv_t ?_) (fun c1 => mv_f ?_)
    · have hh := h M1 ⟨hC1, e31, hL1⟩ hF1 h9
      unfold qg_reason at hh
      rw [qg_if_neg ho, qg_if_pos c1] at hh
      exact hh
    · refine sp_X4_arrange hC1 hwp (fun M2 hL2 hO2 => ?_)
      have hC2 : qr_C M2 18 (qg_put C n (some (qg_at m))) := hC1.fr hwp (fun t j k hf => hO2.1 t j k (fun z => qf_LC z hf))
      have e32 : M2.1 9 0 3 = (n : Int) := (hO2.1 _ _ _ (by unfold qf_L; omega)).trans e31
      have hL0 : qr_L M2 0 (qg_put C n none) := hL1.fr (by rw [qg_put_1]; exact hw.1) (fun t j k hf => hO2.1 t j k (by unfold qf_L at *; omega))
      refine sp_X9_reasonInLayout hC2 e32 hwp hqd rfl hL2 hL0 hwn (by rw [qg_put_1, qg_put_1]) ?_
      have hh := h M2 ⟨hC2, e32, hL0⟩ (hF1.tr (hO2.wk (fun t j z => Or.inr (Or.inr (Or.inr z))))) (fun k => (hO2.1 _ _ _ (by unfold qf_L; omega)).trans (h9 k))
      unfold qg_reason at hh
      rw [qg_if_neg ho, qg_if_neg c1] at hh
      exact hh
  refine And.intro (by omega) ?_
  refine And.intro (fun c1 => isout (hout.mpr (by omega))) (fun c1 => ?_)
  refine And.intro (by omega) ?_
  refine And.intro (fun c2 => isin (fun z => absurd (hout.mp z) (by omega))) (fun c2 => isout (hout.mpr (by omega)))
/-- the best place among the first modules, and its unrest; none -/
noncomputable def qg_bestF (C : qg_C) (n : Nat) : Nat → Int × Int
  | 0 => (-99, -99)
  | k + 1 => qg_if (((qg_bestF C n k).1 = -99 ∨ qg_unrest (qg_put C n (some (qg_at k))).2.1 < (qg_bestF C n k).2) ∧ qg_reason C n (qg_at k) = 0) ((k : Int), qg_unrest (qg_put C n (some (qg_at k))).2.1) (qg_bestF C n k)
noncomputable def qg_best (C : qg_C) (n : Nat) : Int × Int := qg_bestF C n 360
theorem qg_bestF_ok (C : qg_C) (n : Nat) : ∀ k, qg_bestF C n k = (-99, -99) ∨ ∃ m : Nat, m < k ∧ qg_bestF C n k = ((m : Int), qg_unrest (qg_put C n (some (qg_at m))).2.1) ∧ qg_reason C n (qg_at m) = 0
  | 0 => Or.inl rfl
  | k + 1 => by
    unfold qg_bestF
    by_cases hc : ((qg_bestF C n k).1 = -99 ∨ qg_unrest (qg_put C n (some (qg_at k))).2.1 < (qg_bestF C n k).2) ∧ qg_reason C n (qg_at k) = 0
    · rw [qg_if_pos hc]
      exact Or.inr ⟨k, by omega, rfl, hc.2⟩
    · rw [qg_if_neg hc]
      rcases qg_bestF_ok C n k with h | ⟨m, h1, h2, h3⟩
      · exact Or.inl h
      · exact Or.inr ⟨m, by omega, h2, h3⟩
set_option maxRecDepth 100000 in
theorem sp_X9_seekBest {c n : Nat} {C : qg_C} {x : Int} {M : mv_M} {Q : mv_R} (hx : x = (n : Int)) (hc : c ≠ 18) (hC : qr_C M c C) (hw : qg_wC C) (hn : n < C.2.1.length) (h : ∀ M', M'.1 9 0 4 = (qg_best C n).1 → M'.1 9 0 5 = (qg_best C n).2 → mv_off qf_T M M' → Q none M') : E_X9_seekBest [.inr (9, 0), .inr (1, c), .inl x] M Q := by
  refine ev_X9_seekBest ?_
  refine go_X9_seekBest [20] 60 ?_
  refine sp_X9_prepare hx hc hC hw hn (fun M1 hT1 hO1 => ?_)
  have hl : ∀ (k : Nat) (M2 : mv_M), k ≤ 360 → (M2.1 9 0 4 = (qg_bestF C n k).1 ∧ M2.1 9 0 5 = (qg_bestF C n k).2 ∧ mv_off qf_T M M2 ∧ ∃ o, qr_T M2 C n o) →
      ∀ z : Option mv_V, J_X9_seekBest Q 20 [some (.inr (9, 0)), some (.inr (1, c)), some (.inl x), some (.inl (k : Int)), z] [] M2 := by
    refine mv_loop 360 (fun k M2 hk ih hI z => ?_)
    obtain ⟨e4, e5, hO2, o, hT2⟩ := hI
    refine go_X9_seekBest [20, 52, 71] 60 ?_
    refine And.intro (fun c1 => ?_) (fun c1 => ?_)
    · have : k = 360 := by omega
      subst this
      exact h M2 e4 e5 hO2
    · have hlt : k < 360 := by omega
      refine sp_X9_unrestAt hT2 hw hn hlt (fun M3 hT3 hO3 => ?_)
      have e43 : M3.1 9 0 4 = (qg_bestF C n k).1 := (hO3.1 _ _ _ (by omega)).trans e4
      have e53 : M3.1 9 0 5 = (qg_bestF C n k).2 := (hO3.1 _ _ _ (by omega)).trans e5
      have hO3' : mv_off qf_T M M3 := hO2.tr (hO3.wk (fun t j z => Or.inr (Or.inl (by have z2 : j = 8 * 18 + n := z.2; have z1 := z.1; have := hw.2.1; unfold qf_C; omega))))
      have next : ∀ M4, M4.1 9 0 4 = (qg_bestF C n (k + 1)).1 → M4.1 9 0 5 = (qg_bestF C n (k + 1)).2 → mv_off qf_T M M4 → (∃ o, qr_T M4 C n o) → J_X9_seekBest Q 71 [some (.inr (9, 0)), some (.inr (1, c)), some (.inl x), some (.inl (k : Int)), some (.inl (qg_unrest (qg_put C n (some (qg_at k))).2.1))] [] M4 := by
        intro M4 g4 g5 g6 g7
        refine go_X9_seekBest [20] 60 ?_
        refine And.intro (by omega) ?_
        exact ih M4 hlt ⟨g4, g5, g6, g7⟩ _
      have ask : ((qg_bestF C n k).1 = -99 ∨ qg_unrest (qg_put C n (some (qg_at k))).2.1 < (qg_bestF C n k).2) → J_X9_seekBest Q 52 [some (.inr (9, 0)), some (.inr (1, c)), some (.inl x), some (.inl (k : Int)), some (.inl (qg_unrest (qg_put C n (some (qg_at k))).2.1))] [] M3 := by
        intro hor
        refine go_X9_seekBest [71] 60 ?_
        refine sp_X9_reasonAt hT3 hw hn hlt (fun M4 hT4 hO4 h94 => ?_)
        refine And.intro (fun c2 => ?_) (fun c2 => ?_)
        · have hb : qg_bestF C n (k + 1) = qg_bestF C n k := qg_if_neg (fun z => c2 z.2) _ _
          exact next M4 (by rw [h94, hb]; exact e43) (by rw [h94, hb]; exact e53) (hO3'.tr hO4) ⟨_, hT4⟩
        · have hb : qg_bestF C n (k + 1) = ((k : Int), qg_unrest (qg_put C n (some (qg_at k))).2.1) := qg_if_pos ⟨hor, c2⟩ _ _
          refine next _ ?_ ?_ (((hO3'.tr hO4).up (Or.inl rfl)).up (Or.inl rfl)) ⟨some (qg_at k), ?_⟩
          · rw [hb]; simp [mv_up]
          · rw [hb]; simp [mv_up]
          · obtain ⟨a1, a2, a3⟩ := hT4
            refine ⟨a1.fr (qg_wC_put hw n (qg_okp_at hlt)) (fun t j k hf => ?_), ?_, a3.fr (by rw [qg_put_1]; exact hw.1) (fun t j k hf => ?_)⟩
            · have : ¬ t = 9 := by unfold qf_C at hf; omega
              simp [mv_up, this]
            · simpa [mv_up] using a2
            · have : ¬ t = 9 := by unfold qf_L at hf; omega
              simp [mv_up, this]
      refine And.intro (fun c2 => ask (Or.inl (by omega))) (fun c2 => ?_)
      refine And.intro (fun c3 => ?_) (fun c3 => ask (Or.inr (by omega)))
      have hb : qg_bestF C n (k + 1) = qg_bestF C n k := qg_if_neg (fun z => by
        rcases z.1 with z | z
        · exact c2 (by rw [e43]; exact z)
        · omega) _ _
      exact next M3 (by rw [hb]; exact e43) (by rw [hb]; exact e53) hO3' ⟨_, hT3⟩
  refine hl 0 _ (Nat.zero_le _) ⟨?_, ?_, (hO1.up (Or.inl rfl)).up (Or.inl rfl), none, ?_⟩ none
  · simp [mv_up, qg_bestF]
  · simp [mv_up, qg_bestF]
  · obtain ⟨a1, a2, a3⟩ := hT1
    refine ⟨a1.fr (qg_wC_put hw n qg_okp_none) (fun t j k hf => ?_), ?_, a3.fr (by rw [qg_put_1]; exact hw.1) (fun t j k hf => ?_)⟩
    · have : ¬ t = 9 := by unfold qf_C at hf; omega
      simp [mv_up, this]
    · simpa [mv_up] using a2
    · have : ¬ t = 9 := by unfold qf_L at hf; omega
      simp [mv_up, this]
