/-! isRight: the quotes. -/
theorem qg_trF_step {C : qg_C} {k : Nat} {q : qg_Q} (hq : C.2.1[k]? = some q) : qg_trF C (k + 1) = qg_trF C k + (match q.2.2.2.2 with
    | none => 0
    | some p => if qg_reason C k p = 0 then 0 else 1) := by
  rw [qg_trF_succ, hq]
  rfl
section RQ
variable {F : qg_F} {M0 : mv_M} {Q : mv_R}
set_option maxRecDepth 100000 in
/-- one placed quote -/
theorem rw_placed (hw : qg_wF F) (hd : pz_dj F.1.1.2.1) {k : Nat} {q : qg_Q} {p : Nat × Nat × Nat} (hq : F.1.1.2.1[k]? = some q) (hp : q.2.2.2.2 = some p) {x1 x2 x4 x5 : Option mv_V} {z3 z6 z7 : Int} (b7 : 0 ≤ z7 ∧ z7 ≤ 8)
    (hend : ∀ M', pz_I F M0 M' → ∀ (y7 : Int) (x9 x10 x11 x12 x13 : Option mv_V), y7 = z7 + (if qg_reason F.1.1 k p = 0 then 0 else 1) → J_L_isRight Q 478 (rL x1 x2 (sI z3) x4 x5 (sI z6) (sI y7) (sI k) x9 x10 x11 x12 x13) [] M') :
    ∀ (M1 : mv_M), pz_I F M0 M1 → ∀ (x9 x10 x11 x12 x13 : Option mv_V), J_L_isRight Q 321 (rL x1 x2 (sI z3) x4 x5 (sI z6) (sI z7) (sI k) x9 x10 x11 x12 x13) [] M1 := by
  have hC := hw.1.1.1
  have hk := (List.getElem?_eq_some_iff.mp hq).1
  have h8 := hC.2.1
  have hwq := (hC.2.2.2.1 q (List.mem_of_getElem? hq)).1
  obtain ⟨p1, p2, p3⟩ := hwq.2.2.2.2 p hp
  have hrb := qg_reason_b F.1.1 k p
  have q4 : an_quote F (k : Int) 4 = (p.1 : Int) := (aq_4 hq).trans (by rw [hp]; rfl)
  have q5 : an_quote F (k : Int) 5 = (p.2.1 : Int) := (aq_5 hq).trans (by rw [hp]; rfl)
  have q6 : an_quote F (k : Int) 6 = (p.2.2 : Int) := (aq_6 hq).trans (by rw [hp]; rfl)
  have hcr : 120 * p.1 + 20 * p.2.1 + p.2.2 < 360 := by omega
  have hT := pz_corner hC hd hq hp
  intro M1 hI x9 x10 x11 x12 x13
  refine go_L_isRight [363, 438, 464, 478] 90 ?_
  refine sq_quote hI hw q4 (fun M2 hI2 => ?_)
  refine sq_quote hI2 hw q5 (fun M3 hI3 => ?_)
  refine sq_quote hI3 hw q6 (fun M4 hI4 => ?_)
  refine sq_refusal (r := qg_reason F.1.1 k p) hI4 hw (aR_at hk p1 p2 p3) (fun M5 hI5 => ?_)
  -- the end: is the place wrong?
  have at464 : ∀ M', pz_I F M0 M' → ∀ (y7 : Int) (x10 x11 x13 : Option mv_V) (far : Int), (far = -99 ∨ 0 ≤ far) → y7 = z7 + (if qg_reason F.1.1 k p = 0 then 0 else 1) → J_L_isRight Q 464 (rL x1 x2 (sI z3) x4 x5 (sI z6) (sI y7) (sI k) x9 x10 x11 (sI far) x13) [] M' := by
    intro M' hI' y7 x10 x11 x13 far hf hy
    refine go_L_isRight [363, 438, 464, 478] 90 ?_
    refine And.intro (fun _ => hend M' hI' _ _ _ _ _ _ hy) (fun c => ?_)
    exact And.intro (fun _ => hend M' hI' _ _ _ _ _ _ hy) (fun c2 => absurd c2 (by omega))
  have at438 : ∀ M', pz_I F M0 M' → ∀ (y7 wr far : Int) (x13 : Option mv_V), (wr ≠ 0 → qg_reason F.1.1 k p ≠ 0) → (far = -99 ∨ 0 ≤ far) → y7 = z7 + (if qg_reason F.1.1 k p = 0 then 0 else 1) →
      J_L_isRight Q 438 (rL x1 x2 (sI z3) x4 x5 (sI z6) (sI y7) (sI k) x9 (sI (qg_reason F.1.1 k p)) (sI (120 * (p.1 : Int) + 20 * (p.2.1 : Int) + (p.2.2 : Int))) (sI far) x13) [.inl wr] M' := by
    intro M' hI' y7 wr far x13 hwr hf hy
    refine go_L_isRight [363, 464, 478] 90 ?_
    refine sq_module hI' hw (r := 21 + (k : Int)) ((am_at (m := 120 * p.1 + 20 * p.2.1 + p.2.2) (by omega) hcr).trans (by rw [hT]; omega)) (fun M6 hI6 => ?_)
    refine And.intro (by omega) ?_
    refine And.intro (fun c => absurd rfl c) (fun _ => ?_)
    refine And.intro (fun c => at464 M6 hI6 _ _ _ _ _ hf hy) (fun c => ?_)
    exact And.intro (fun c2 => absurd c2 (hwr c)) (fun _ => at464 M6 hI6 _ _ _ _ _ hf hy)
  have at363 : ∀ M', pz_I F M0 M' → ∀ b : Int, b = (if qg_reason F.1.1 k p = 0 then 0 else 1) → J_L_isRight Q 363 (rL x1 x2 (sI z3) x4 x5 (sI z6) (sI z7) (sI k) x9 (sI (qg_reason F.1.1 k p)) x11 x12 x13) [.inl b, .inl z7] M' := by
    intro M' hI' b hb
    have hb2 : 0 ≤ b ∧ b ≤ 1 := by
      rw [hb]
      split <;> omega
    refine go_L_isRight [438, 464, 478] 90 ?_
    refine And.intro (by omega) ?_
    refine sq_quote hI' hw q4 (fun M6 hI6 => ?_)
    refine And.intro (by omega) ?_
    refine sq_quote hI6 hw q5 (fun M7 hI7 => ?_)
    refine And.intro (by omega) ?_
    refine And.intro (by omega) ?_
    refine sq_quote hI7 hw q6 (fun M8 hI8 => ?_)
    refine And.intro (by omega) ?_
    cases hdd : qg_dist F.1.1 q with
    | none =>
      refine sq_quote hI8 hw (r := -99) ((aq_7 hq).trans (by rw [hdd]; rfl)) (fun M9 hI9 => ?_)
      exact And.intro (fun _ => at438 M9 hI9 _ _ _ _ (fun z => absurd rfl z) (Or.inl rfl) (by rw [hb])) (fun c => absurd c (by decide))
    | some dd =>
      refine sq_quote hI8 hw (r := (dd : Int)) ((aq_7 hq).trans (by rw [hdd]; rfl)) (fun M9 hI9 => ?_)
      have hbad : ¬ (F.1.1.2.2.1 ≤ dd ∧ dd ≤ F.1.1.2.2.2.1) → qg_reason F.1.1 k p ≠ 0 := fun h1 h2 => pz_bad_reason hq hp h2 ⟨dd, hdd, h1⟩
      refine And.intro (fun c => absurd c (by omega)) (fun _ => ?_)
      refine sq_count hI9 hw (r := (F.1.1.2.2.1 : Int)) rfl (fun M10 hI10 => ?_)
      refine And.intro (fun c => at438 M10 hI10 _ _ _ _ (fun _ => hbad (by omega)) (Or.inr (by omega)) (by rw [hb])) (fun c => ?_)
      refine sq_count hI10 hw (r := (F.1.1.2.2.2.1 : Int)) rfl (fun M11 hI11 => ?_)
      refine And.intro (fun c2 => at438 M11 hI11 _ _ _ _ (fun z => absurd rfl z) (Or.inr (by omega)) (by rw [hb])) (fun c2 => ?_)
      exact at438 M11 hI11 _ _ _ _ (fun _ => hbad (by omega)) (Or.inr (by omega)) (by rw [hb])
  refine And.intro (fun c => at363 M5 hI5 _ (by rw [if_pos (by omega)])) (fun c => at363 M5 hI5 _ (by rw [if_neg (by omega)]))
set_option maxRecDepth 100000 in
theorem rw_quotes (hw : qg_wF F) (hd : pz_dj F.1.1.2.1) {x1 x2 x4 x5 : Option mv_V} {T : Nat} (hT : T ≤ 100000)
    (hend : ∀ M', pz_I F M0 M' → ∀ (x8 x9 x10 x11 x12 x13 : Option mv_V), J_L_isRight Q 484 (rL x1 x2 (sI (T + qg_sum (pz_qa F.1.1) F.1.1.2.1.length : Nat)) x4 x5 (sI (qg_placed F.1.1.2.1)) (sI (qg_trF F.1.1 F.1.1.2.1.length)) x8 x9 x10 x11 x12 x13) [] M') :
    ∀ (k : Nat) (M1 : mv_M), k ≤ F.1.1.2.1.length → pz_I F M0 M1 → ∀ (z3 z6 z7 : Int) (x9 x10 x11 x12 x13 : Option mv_V), z3 = ((T + qg_sum (pz_qa F.1.1) k : Nat) : Int) → z6 = (qg_placed (F.1.1.2.1.take k) : Int) → z7 = (qg_trF F.1.1 k : Int) →
      J_L_isRight Q 247 (rL x1 x2 (sI z3) x4 x5 (sI z6) (sI z7) (sI k) x9 x10 x11 x12 x13) [] M1 := by
  have hC := hw.1.1.1
  have h8 := hC.2.1
  refine mv_loop F.1.1.2.1.length (fun k M1 hk0 ih hI z3 z6 z7 x9 x10 x11 x12 x13 h3 h6 h7 => ?_)
  subst h3 h6 h7
  have hqa := pz_qa_le hC hk0
  have htr := qg_trF_le F.1.1 k
  have hpl := qg_placed_le (F.1.1.2.1.take k)
  rw [List.length_take] at hpl
  refine go_L_isRight [247, 321, 478, 484] 90 ?_
  refine sq_count hI hw (r := (F.1.1.2.1.length : Int)) rfl (fun M2 hI2 => ?_)
  refine And.intro (fun c => ?_) (fun c => ?_)
  · have e : k = F.1.1.2.1.length := by omega
    subst e
    rw [List.take_length]
    exact hend M2 hI2 _ _ _ _ _ _
  · have hk : k < F.1.1.2.1.length := by omega
    obtain ⟨q, hq⟩ := qg_some hk
    have hwq := (hC.2.2.2.1 q (List.mem_of_getElem? hq)).1
    have e6 := qg_placed_snoc (F.1.1.2.1.take k) q
    rw [← qg_take hq] at e6
    have e7 := qg_trF_step hq
    have e3 : qg_sum (pz_qa F.1.1) (k + 1) = qg_sum (pz_qa F.1.1) k + pz_at q := by rw [qg_sum_succ, pz_qa_at hq]
    have at478 : ∀ M', pz_I F M0 M' → ∀ (y3 y6 y7 : Int) (x9 x10 x11 x12 x13 : Option mv_V), y3 = ((T + qg_sum (pz_qa F.1.1) (k + 1) : Nat) : Int) → y6 = (qg_placed (F.1.1.2.1.take (k + 1)) : Int) → y7 = (qg_trF F.1.1 (k + 1) : Int) →
        J_L_isRight Q 478 (rL x1 x2 (sI y3) x4 x5 (sI y6) (sI y7) (sI k) x9 x10 x11 x12 x13) [] M' := by
      intro M' hI' y3 y6 y7 x9 x10 x11 x12 x13 g3 g6 g7
      refine go_L_isRight [247, 484] 90 ?_
      refine And.intro (by omega) ?_
      exact ih M' hk hI' _ _ _ _ _ _ _ _ g3 g6 g7
    cases hp : q.2.2.2.2 with
    | none =>
      rw [hp] at e6 e7
      have ea : pz_at q = 0 := by unfold pz_at; rw [hp]
      refine sq_quote hI2 hw (r := -99) ((aq_4 hq).trans (by rw [hp]; rfl)) (fun M3 hI3 => ?_)
      refine And.intro (fun _ => ?_) (fun c2 => absurd c2 (by decide))
      refine And.intro (fun _ => ?_) (fun c2 => absurd rfl c2)
      refine And.intro (by omega) ?_
      refine And.intro (fun _ => ?_) (fun c2 => absurd rfl c2)
      refine And.intro (by omega) ?_
      refine And.intro (fun _ => ?_) (fun c2 => absurd rfl c2)
      refine at478 M3 hI3 _ _ _ _ _ _ _ _ ?_ ?_ ?_
      · rw [e3, ea]; omega
      · rw [e6]; simp
      · rw [e7]; simp
    | some p =>
      rw [hp] at e6 e7
      have ea : pz_at q = q.2.2.1 * q.2.2.2.1 := by unfold pz_at; rw [hp]
      have hle := pz_at_le hwq
      rw [ea] at hle
      have em : (q.2.2.1 : Int) * (q.2.2.2.1 : Int) = ((q.2.2.1 * q.2.2.2.1 : Nat) : Int) := (Int.natCast_mul _ _).symm
      refine sq_quote hI2 hw (r := (p.1 : Int)) ((aq_4 hq).trans (by rw [hp]; rfl)) (fun M3 hI3 => ?_)
      refine And.intro (fun c2 => absurd c2 (by omega)) (fun _ => ?_)
      refine And.intro (fun c2 => absurd c2 (by decide)) (fun _ => ?_)
      refine And.intro (by omega) ?_
      refine And.intro (fun c2 => absurd c2 (by decide)) (fun _ => ?_)
      refine sq_quote hI3 hw (aq_2 hq) (fun M4 hI4 => ?_)
      refine sq_quote hI4 hw (aq_3 hq) (fun M5 hI5 => ?_)
      refine And.intro (by rw [em]; omega) ?_
      refine And.intro (by rw [em]; omega) ?_
      refine And.intro (fun c2 => absurd c2 (by decide)) (fun _ => ?_)
      refine rw_placed hw hd hq hp (by omega) (fun M6 hI6 y7 x9 x10 x11 x12 x13 hy => ?_) M5 hI5 _ _ _ _ _
      refine at478 M6 hI6 _ _ _ _ _ _ _ _ ?_ ?_ ?_
      · rw [e3, ea, em]; omega
      · rw [e6]; simp
      · rw [e7, hy]
        dsimp only
        split <;> simp
end RQ
