/-! The public methods of the class: quote, refusal, bestPlace, troubled, roomFor. -/
def an_quote (F : qg_F) (q w : Int) : Int := match qg_quo F.1.1 q with
  | none => -1
  | some r => if w = 0 then (r.1 : Int) else if w = 1 then (r.2.1 : Int) else if w = 2 then (r.2.2.1 : Int) else if w = 3 then (r.2.2.2.1 : Int)
    else if w = 4 then qg_oi (r.2.2.2.2.map (fun p => p.1)) else if w = 5 then qg_oi (r.2.2.2.2.map (fun p => p.2.1)) else if w = 6 then qg_oi (r.2.2.2.2.map (fun p => p.2.2)) else if w = 7 then qg_oi (qg_dist F.1.1 r) else -1
set_option maxRecDepth 100000 in
theorem sp_X10_quote {F : qg_F} {q w : Int} {M : mv_M} {Q : mv_R} (hX : qr_X M F) (hw : qg_wF F) (h : ∀ M', qr_X M' F → mv_of1 qf_X M M' → Q (some (.inl (an_quote F q w))) M') : E_X10_quote [.inr (10, 0), .inl q, .inl w] M Q := by
  refine ev_X10_quote ?_
  refine go_X10_quote [] 90 ?_
  have hC := hw.1.1.1
  have hCr : qr_C M (3 * 0) F.1.1 := hX.1.1.1
  have w8 := hC.2.1
  unfold an_quote at h
  refine sp_X1_hasQuote hCr hC.2.1 (fun c1 => mv_nt ?_) (fun c1 => mv_nf ?_)
  · obtain ⟨n, r, rfl, hn, hr, hrr⟩ := qg_quo_some c1
    rw [hrr] at h
    dsimp only at h
    have hqr := hCr.2.2.2.1 n r hr
    have hP := hqr.2.2.2.2
    have hwr := hC.2.2.2.1 r (List.mem_of_getElem? hr)
    refine And.intro (by omega) ?_
    refine And.intro (fun c => ?_) (And.intro (fun c => ?_) (And.intro (fun c => ?_) (And.intro (fun c => ?_) (And.intro (fun c => ?_) (And.intro (fun c => ?_) (And.intro (fun c => ?_) (And.intro (fun c => ?_) (And.intro (fun c => ?_) trivial))))))))
    · have c : w < 0 ∨ 8 ≤ w := c
      rw [if_neg (by omega), if_neg (by omega), if_neg (by omega), if_neg (by omega), if_neg (by omega), if_neg (by omega), if_neg (by omega), if_neg (by omega)] at h
      exact h M hX mv_of1.rf
    · have c : w = 0 := by omega
      subst c
      rw [if_pos rfl, ← hqr.1] at h
      exact h M hX mv_of1.rf
    · have c : w = 1 := by omega
      subst c
      rw [if_neg (by decide), if_pos rfl, ← hqr.2.1] at h
      exact h M hX mv_of1.rf
    · have c : w = 2 := by omega
      subst c
      rw [if_neg (by decide), if_neg (by decide), if_pos rfl, ← hqr.2.2.1] at h
      exact h M hX mv_of1.rf
    · have c : w = 3 := by omega
      subst c
      rw [if_neg (by decide), if_neg (by decide), if_neg (by decide), if_pos rfl, ← hqr.2.2.2.1] at h
      exact h M hX mv_of1.rf
    · have c : w = 4 := by omega
      subst c
      rw [if_neg (by decide), if_neg (by decide), if_neg (by decide), if_neg (by decide), if_pos rfl] at h
      cases ho : r.2.2.2.2 with
      | none =>
        rw [ho] at h hP
        refine And.intro (fun _ => h M hX mv_of1.rf) (fun c2 => absurd hP c2)
      | some p =>
        rw [ho] at h hP
        obtain ⟨p1, p2, p3, p4⟩ := (hP : M.1 5 (8 * (3 * 0) + n) 4 = 1 ∧ M.1 5 (8 * (3 * 0) + n) 5 = (p.1 : Int) ∧ M.1 5 (8 * (3 * 0) + n) 6 = (p.2.1 : Int) ∧ M.1 5 (8 * (3 * 0) + n) 7 = (p.2.2 : Int))
        have h : ∀ M', qr_X M' F → mv_of1 qf_X M M' → Q (some (.inl (p.1 : Int))) M' := h
        rw [← p2] at h
        refine And.intro (fun c2 => ?_) (fun _ => h M hX mv_of1.rf)
        have c2 : M.1 5 (8 * (3 * 0) + n) 4 = 0 := c2
        omega
    · have c : w = 5 := by omega
      subst c
      rw [if_neg (by decide), if_neg (by decide), if_neg (by decide), if_neg (by decide), if_neg (by decide), if_pos rfl] at h
      cases ho : r.2.2.2.2 with
      | none =>
        rw [ho] at h hP
        refine And.intro (fun _ => h M hX mv_of1.rf) (fun c2 => absurd hP c2)
      | some p =>
        rw [ho] at h hP
        obtain ⟨p1, p2, p3, p4⟩ := (hP : M.1 5 (8 * (3 * 0) + n) 4 = 1 ∧ M.1 5 (8 * (3 * 0) + n) 5 = (p.1 : Int) ∧ M.1 5 (8 * (3 * 0) + n) 6 = (p.2.1 : Int) ∧ M.1 5 (8 * (3 * 0) + n) 7 = (p.2.2 : Int))
        have h : ∀ M', qr_X M' F → mv_of1 qf_X M M' → Q (some (.inl (p.2.1 : Int))) M' := h
        rw [← p3] at h
        refine And.intro (fun c2 => ?_) (fun _ => h M hX mv_of1.rf)
        have c2 : M.1 5 (8 * (3 * 0) + n) 4 = 0 := c2
        omega
    · have c : w = 6 := by omega
      subst c
      rw [if_neg (by decide), if_neg (by decide), if_neg (by decide), if_neg (by decide), if_neg (by decide), if_neg (by decide), if_pos rfl] at h
      cases ho : r.2.2.2.2 with
      | none =>
        rw [ho] at h hP
        refine And.intro (fun _ => h M hX mv_of1.rf) (fun c2 => absurd hP c2)
      | some p =>
        rw [ho] at h hP
        obtain ⟨p1, p2, p3, p4⟩ := (hP : M.1 5 (8 * (3 * 0) + n) 4 = 1 ∧ M.1 5 (8 * (3 * 0) + n) 5 = (p.1 : Int) ∧ M.1 5 (8 * (3 * 0) + n) 6 = (p.2.1 : Int) ∧ M.1 5 (8 * (3 * 0) + n) 7 = (p.2.2 : Int))
        have h : ∀ M', qr_X M' F → mv_of1 qf_X M M' → Q (some (.inl (p.2.2 : Int))) M' := h
        rw [← p4] at h
        refine And.intro (fun c2 => ?_) (fun _ => h M hX mv_of1.rf)
        have c2 : M.1 5 (8 * (3 * 0) + n) 4 = 0 := c2
        omega
    · have c : w = 7 := by omega
      subst c
      rw [if_neg (by decide), if_neg (by decide), if_neg (by decide), if_neg (by decide), if_neg (by decide), if_neg (by decide), if_neg (by decide), if_pos rfl] at h
      refine sp_X10_currentLayout hX hw (fun M1 hX1 hL1 hO1 => ?_)
      exact sp_X4_distanceFromSentence (c := 3 * 0) hL1 hX1.1.1.1 hC (hX1.1.1.1.2.2.2.1 n r hr) hwr.1 hwr.2 (h M1 hX1 hO1)
  · rw [qg_quo_none c1] at h
    exact h M hX mv_of1.rf
noncomputable def an_refusal (F : qg_F) (q p c r : Int) : Int :=
  if (0 ≤ q ∧ q < (F.1.1.2.1.length : Int)) ∧ (0 ≤ p ∧ p ≤ 2) ∧ (0 ≤ c ∧ c ≤ 5) ∧ (0 ≤ r ∧ r ≤ 19) then qg_reason F.1.1 q.toNat (p.toNat, c.toNat, r.toNat) else -1
set_option maxRecDepth 100000 in
theorem sp_X10_refusal {F : qg_F} {q p c r : Int} {M : mv_M} {Q : mv_R} (hX : qr_X M F) (hw : qg_wF F) (h : ∀ M', qr_X M' F → mv_of1 qf_X M M' → Q (some (.inl (an_refusal F q p c r))) M') : E_X10_refusal [.inr (10, 0), .inl q, .inl p, .inl c, .inl r] M Q := by
  refine ev_X10_refusal ?_
  refine go_X10_refusal [24] 90 ?_
  unfold an_refusal at h
  have hC := hw.1.1.1
  have w8 := hC.2.1
  have bad : ¬ ((0 ≤ q ∧ q < (F.1.1.2.1.length : Int)) ∧ (0 ≤ p ∧ p ≤ 2) ∧ (0 ≤ c ∧ c ≤ 5) ∧ (0 ≤ r ∧ r ≤ 19)) → J_X10_refusal Q 24 [some (.inr (10, 0)), some (.inl q), some (.inl p), some (.inl c), some (.inl r)] [] M := by
    intro hc
    rw [if_neg hc] at h
    refine go_X10_refusal [] 60 ?_
    exact h M hX mv_of1.rf
  refine sp_X1_hasQuote (c := 3 * 0) hX.1.1.1 hC.2.1 (fun c1 => mv_t ?_) (fun c1 => mv_f (bad (fun z => c1 z.1)))
  refine sp_isPlace (fun c2 => mv_nt ?_) (fun c2 => mv_nf (bad (fun z => c2 z.2)))
  rw [if_pos ⟨c1, c2⟩] at h
  obtain ⟨n, rfl⟩ := Int.eq_ofNat_of_zero_le c1.1
  obtain ⟨a, rfl⟩ := Int.eq_ofNat_of_zero_le c2.1.1
  obtain ⟨b, rfl⟩ := Int.eq_ofNat_of_zero_le c2.2.1.1
  obtain ⟨d, rfl⟩ := Int.eq_ofNat_of_zero_le c2.2.2.1
  simp only [Int.toNat_natCast] at h
  have hn : n < F.1.1.2.1.length := by omega
  refine sp_X9_prepare (c := 3 * 0) (n := n) rfl (by decide) hX.1.1.1 hC hn (fun M1 hT1 hO1 => ?_)
  refine sp_moduleAt (p := a) (c := b) (r := d) rfl rfl rfl (by omega) (by omega) (by omega) ?_
  refine sp_X9_reasonAt (n := n) (m := a * 120 + b * 20 + d) hT1 hC hn (by omega) (fun M2 hT2 hO2 h92 => ?_)
  rw [qg_at_of (by omega) (by omega)]
  exact h M2 ((hX.frT hw hO1).frT hw hO2) ((hO1.of1 (fun t j => qf_TX)).tr (hO2.of1 (fun t j => qf_TX)))
noncomputable def an_bestPlace (F : qg_F) (q w : Int) : Int := if (0 ≤ q ∧ q < (F.1.1.2.1.length : Int)) ∧ 0 ≤ w ∧ w ≤ 1 then (if w = 0 then (qg_best F.1.1 q.toNat).1 else (qg_best F.1.1 q.toNat).2) else -1
set_option maxRecDepth 100000 in
theorem sp_X10_bestPlace {F : qg_F} {q w : Int} {M : mv_M} {Q : mv_R} (hX : qr_X M F) (hw : qg_wF F) (h : ∀ M', qr_X M' F → mv_of1 qf_X M M' → Q (some (.inl (an_bestPlace F q w))) M') : E_X10_bestPlace [.inr (10, 0), .inl q, .inl w] M Q := by
  refine ev_X10_bestPlace ?_
  refine go_X10_bestPlace [23] 90 ?_
  unfold an_bestPlace at h
  have hC := hw.1.1.1
  have bad : ¬ ((0 ≤ q ∧ q < (F.1.1.2.1.length : Int)) ∧ 0 ≤ w ∧ w ≤ 1) → J_X10_bestPlace Q 23 [some (.inr (10, 0)), some (.inl q), some (.inl w)] [] M := by
    intro hc
    rw [if_neg hc] at h
    refine go_X10_bestPlace [] 60 ?_
    exact h M hX mv_of1.rf
  refine sp_X1_hasQuote (c := 3 * 0) hX.1.1.1 hC.2.1 (fun c1 => mv_t ?_) (fun c1 => mv_f (bad (fun z => c1 z.1)))
  refine sp_isWithin (fun c2 => mv_nt ?_) (fun c2 => mv_nf (bad (fun z => c2 z.2)))
  rw [if_pos ⟨c1, c2⟩] at h
  obtain ⟨n, rfl⟩ := Int.eq_ofNat_of_zero_le c1.1
  rw [Int.toNat_natCast] at h
  refine sp_X9_seekBest (c := 3 * 0) (n := n) rfl (by decide) hX.1.1.1 hC (by omega) (fun M1 b4 b5 hO1 => ?_)
  have h1 := h M1 (hX.frT hw hO1) (hO1.of1 (fun t j => qf_TX))
  refine And.intro (fun c3 => ?_) (fun c3 => ?_)
  · rw [if_neg c3, ← b5] at h1
    exact h1
  · rw [if_pos c3, ← b4] at h1
    exact h1
/-- how many of the first quotes would be refused at their places -/
noncomputable def qg_trF (C : qg_C) : Nat → Nat
  | 0 => 0
  | k + 1 => qg_trF C k + (match C.2.1[k]? with
    | none => 0
    | some q => match q.2.2.2.2 with
      | none => 0
      | some p => if qg_reason C k p = 0 then 0 else 1)
theorem qg_trF_succ (C : qg_C) (k : Nat) : qg_trF C (k + 1) = qg_trF C k + (match C.2.1[k]? with
    | none => 0
    | some q => match q.2.2.2.2 with
      | none => 0
      | some p => if qg_reason C k p = 0 then 0 else 1) := rfl
theorem qg_trF_le (C : qg_C) : ∀ k, qg_trF C k ≤ k
  | 0 => Nat.le_refl _
  | k + 1 => by
    have := qg_trF_le C k
    rw [qg_trF_succ]
    split
    · omega
    · split
      · omega
      · split <;> omega
noncomputable def an_troubled (F : qg_F) : Int := (qg_trF F.1.1 F.1.1.2.1.length : Int)
set_option maxRecDepth 100000 in
theorem sp_X10_troubled {F : qg_F} {M : mv_M} {Q : mv_R} (hX : qr_X M F) (hw : qg_wF F) (h : ∀ M', qr_X M' F → mv_of1 qf_X M M' → Q (some (.inl (an_troubled F))) M') : E_X10_troubled [.inr (10, 0)] M Q := by
  refine ev_X10_troubled ?_
  refine go_X10_troubled [12] 90 ?_
  have hC := hw.1.1.1
  have w8 := hC.2.1
  have hl : ∀ (k : Nat) (M1 : mv_M), k ≤ F.1.1.2.1.length → (qr_X M1 F ∧ mv_of1 qf_X M M1) → ∀ (x : Int) (o : Option mv_V), x = (qg_trF F.1.1 k : Int) → J_X10_troubled Q 12 [some (.inr (10, 0)), some (.inr (1, 3 * 0)), some (.inl x), some (.inl (k : Int)), o] [] M1 := by
    refine mv_loop F.1.1.2.1.length (fun k M1 hk ih hI x o hx => ?_)
    subst hx
    obtain ⟨hX1, hO1⟩ := hI
    have hCr : qr_C M1 (3 * 0) F.1.1 := hX1.1.1.1
    have e4 := hCr.2.1
    have hle := qg_trF_le F.1.1 k
    refine go_X10_troubled [12, 76] 90 ?_
    refine And.intro (fun c1 => ?_) (fun c1 => ?_)
    · have : k = F.1.1.2.1.length := by omega
      subst this
      exact h M1 hX1 hO1
    · have hlt : k < F.1.1.2.1.length := by omega
      obtain ⟨q, hq⟩ := qg_some hlt
      have hqr := hCr.2.2.2.1 k q hq
      have hP := hqr.2.2.2.2
      have hwq := (hC.2.2.2.1 q (List.mem_of_getElem? hq)).1
      have hs := qg_trF_succ F.1.1 k
      rw [hq] at hs
      dsimp only at hs
      have next : ∀ (M2 : mv_M) (x : Int), x = (qg_trF F.1.1 (k + 1) : Int) → qr_X M2 F → mv_of1 qf_X M M2 → J_X10_troubled Q 76 [some (.inr (10, 0)), some (.inr (1, 3 * 0)), some (.inl x), some (.inl (k : Int)), some (.inr (5, 8 * (3 * 0) + k))] [] M2 := by
        intro M2 x hx hX2 hO2
        refine go_X10_troubled [12] 60 ?_
        refine And.intro (by omega) ?_
        exact ih M2 hlt ⟨hX2, hO2⟩ _ _ hx
      refine And.intro (by omega) ?_
      cases ho : q.2.2.2.2 with
      | none =>
        rw [ho] at hP hs
        dsimp only at hs
        refine And.intro (fun _ => next M1 _ (by rw [hs]; rfl) hX1 hO1) (fun c2 => absurd hP c2)
      | some p =>
        rw [ho] at hP hs
        dsimp only at hs
        obtain ⟨p1, p2, p3, p4⟩ := (hP : M1.1 5 (8 * (3 * 0) + k) 4 = 1 ∧ M1.1 5 (8 * (3 * 0) + k) 5 = (p.1 : Int) ∧ M1.1 5 (8 * (3 * 0) + k) 6 = (p.2.1 : Int) ∧ M1.1 5 (8 * (3 * 0) + k) 7 = (p.2.2 : Int))
        have hpp := hwq.2.2.2.2 p ho
        refine And.intro (fun c2 => ?_) (fun _ => ?_)
        · have c2 : M1.1 5 (8 * (3 * 0) + k) 4 = 0 := c2
          omega
        refine sp_X9_prepare (c := 3 * 0) (n := k) rfl (by decide) hCr hC hlt (fun M2 hT2 hO2 => ?_)
        have fr : ∀ i, M2.1 5 (8 * (3 * 0) + k) i = M1.1 5 (8 * (3 * 0) + k) i := fun i => hO2.1 _ _ _ (by unfold qf_T qf_C qf_L; omega)
        refine sp_moduleAt (p := p.1) (c := p.2.1) (r := p.2.2) ((fr 5).trans p2) ((fr 6).trans p3) ((fr 7).trans p4) hpp.1 hpp.2.1 hpp.2.2 ?_
        refine sp_X9_reasonAt (n := k) (m := p.1 * 120 + p.2.1 * 20 + p.2.2) hT2 hC hlt (by omega) (fun M3 hT3 hO3 h93 => ?_)
        rw [qg_at_of hpp.2.1 hpp.2.2]
        have hX3 : qr_X M3 F := (hX1.frT hw hO2).frT hw hO3
        have hO13 : mv_of1 qf_X M M3 := hO1.tr ((hO2.of1 (fun t j => qf_TX)).tr (hO3.of1 (fun t j => qf_TX)))
        refine And.intro (fun c3 => ?_) (fun c3 => ?_)
        · rw [if_pos c3] at hs
          exact next M3 _ (by rw [hs]; rfl) hX3 hO13
        · rw [if_neg c3] at hs
          refine And.intro (by omega) ?_
          exact next M3 _ (by rw [hs]; rfl) hX3 hO13
  exact hl 0 M (Nat.zero_le _) ⟨hX, mv_of1.rf⟩ _ none rfl
/-- the answer of roomFor -/
def is_room (F : qg_F) (a x : Int) : Prop := match qg_art F.1.1 a with
  | none => x = -1
  | some A => ∃ r : Nat, x = (r : Int) ∧ qg_room F.1.1 a.toNat A.2.1 r
set_option maxRecDepth 100000 in
theorem sp_X10_roomFor {F : qg_F} {a : Int} {M : mv_M} {Q : mv_R} (hX : qr_X M F) (hw : qg_wF F) (h : ∀ M' x, is_room F a x → qr_X M' F → mv_of1 qf_X M M' → Q (some (.inl x)) M') : E_X10_roomFor [.inr (10, 0), .inl a] M Q := by
  refine ev_X10_roomFor ?_
  refine go_X10_roomFor [] 90 ?_
  have hC := hw.1.1.1
  unfold is_room at h
  refine sp_X1_hasArticle hX.1.1.1 hC.1 (fun c1 => mv_nt ?_) (fun c1 => mv_nf ?_)
  · obtain ⟨n, A, rfl, hn, hA, ha⟩ := qg_art_some c1
    rw [ha] at h
    refine sp_X9_greatestLength (c := 3 * 0) (C := F.1.1) (A := A) (by decide) hX.1.1.1 hC hA (fun M1 r hr hO1 => ?_)
    exact h M1 _ ⟨r, rfl, hr⟩ (hX.frT hw hO1) (hO1.of1 (fun t j => qf_TX))
  · rw [qg_art_none c1] at h
    exact h M _ rfl hX mv_of1.rf
