/-! The public methods of the class: sentences, quotes, rules. -/
def op_addSentence (F : qg_F) (a l : Int) : Int × qg_F := match qg_art F.1.1 a with
  | none => (-1, F)
  | some A => if 0 ≤ l ∧ l < (A.2.1 : Int) then (if A.2.2.length < 8 then ((A.2.2.length : Int), qg_wc (qg_act F) (F.1.1.1.set a.toNat (A.1, A.2.1, A.2.2 ++ [l.toNat]), F.1.1.2)) else (-3, F)) else (-1, F)
theorem qg_own_setS {as : List qg_A} {a : Nat} {A B : qg_A} {q : qg_Q} (h : as[a]? = some A) (hl : A.2.2.length ≤ B.2.2.length) (ho : qg_own as q) : qg_own (as.set a B) q := by
  obtain ⟨X, hX, hs⟩ := ho
  have hlt := (List.getElem?_eq_some_iff.mp h).1
  unfold qg_own
  rw [List.getElem?_set]
  by_cases e : a = q.1
  · rw [if_pos e, if_pos hlt]
    rw [← e, h] at hX
    cases hX
    exact ⟨B, rfl, Nat.lt_of_lt_of_le hs hl⟩
  · rw [if_neg e]
    exact ⟨X, hX, hs⟩
theorem wf_addSentence {F : qg_F} (hw : qg_wF F) (a l : Int) : qg_wF (op_addSentence F a l).2 := by
  unfold op_addSentence
  split
  · exact hw
  · rename_i A hA
    have hA := qg_art_mem hA
    have hC := hw.1.1.1
    have hwA := hC.2.2.1 A (List.mem_of_getElem? hA)
    split
    · rename_i hc
      split
      · rename_i h8
        refine qg_wF_wc (qg_wF_act hw) ⟨by show (F.1.1.1.set _ _).length ≤ 6; rw [List.length_set]; exact hC.1, hC.2.1, fun x hx => ?_, fun q hq => ⟨(hC.2.2.2.1 q hq).1, qg_own_setS hA (by simp) (hC.2.2.2.1 q hq).2⟩, hC.2.2.2.2⟩ hw.1.2.1
        rcases List.mem_or_eq_of_mem_set (show x ∈ F.1.1.1.set _ _ from hx) with hx | hx
        · exact hC.2.2.1 x hx
        · rw [hx]
          refine ⟨hwA.1, hwA.2.1, hwA.2.2.1, by simp; omega, fun y hy => ?_⟩
          rcases List.mem_append.mp hy with z | z
          · exact hwA.2.2.2.2 y z
          · rw [List.mem_singleton.mp z]
            show l.toNat < A.2.1
            omega
      · exact hw
    · exact hw
set_option maxRecDepth 100000 in
theorem sp_X10_addSentence {F : qg_F} {a l : Int} {M : mv_M} {Q : mv_R} (hX : qr_X M F) (hw : qg_wF F) (h : ∀ M', qr_X M' (op_addSentence F a l).2 → mv_of1 qf_X M M' → Q (some (.inl (op_addSentence F a l).1)) M') : E_X10_addSentence [.inr (10, 0), .inl a, .inl l] M Q := by
  refine ev_X10_addSentence ?_
  refine go_X10_addSentence [] 90 ?_
  unfold op_addSentence at h
  have hC := hw.1.1.1
  have w6 := hC.1
  refine sp_X1_hasLine (c := 3 * 0) hX.1.1.1 hC (fun c1 => mv_nt ?_) (fun c1 => mv_nf ?_)
  · obtain ⟨A, ha, hl⟩ := c1
    rw [ha] at h
    dsimp only at h
    rw [if_pos hl] at h
    have hA := qg_art_mem ha
    have h0 : 0 ≤ a := by
      unfold qg_art at ha
      split at ha
      · assumption
      · cases ha
    obtain ⟨n, rfl⟩ := Int.eq_ofNat_of_zero_le h0
    have hA : F.1.1.1[n]? = some A := hA
    have hn := (List.getElem?_eq_some_iff.mp hA).1
    refine And.intro (by omega) ?_
    have e3 : M.1 0 (6 * (3 * 0) + (n : Int).toNat) 3 = (A.2.2.length : Int) := (hX.1.1.1.2.2.1 n A hA).2.2.1
    refine And.intro (fun c2 => ?_) (fun c2 => ?_)
    · have h8 : A.2.2.length < 8 := by omega
      rw [if_pos h8] at h
      refine sp_X10_beginAction hX.1 hw (fun M1 hZ1 hf1 hO1 => ?_)
      obtain ⟨m, rfl⟩ := Int.eq_ofNat_of_zero_le hl.1
      refine sp_X0_newSentence (a := 6 * (3 * 0) + n) (A := A) (hZ1.1.1.2.2.1 n A hA) h8 (fun M2 hA2 hO2 => ?_)
      have hC2 := (show qr_C M1 0 F.1.1 from hZ1.1.1).setA (n := n) (B := (A.1, A.2.1, A.2.2 ++ [m])) (M' := M2) hA2 (fun t j k hn => hO2.1 t j k (fun z => hn ⟨z.1, by rw [z.2]⟩))
      have hO2' : mv_off (qf_C 0) M1 M2 := hO2.wk (fun t j z => by
        obtain ⟨z1, z2⟩ := z
        have z2 : j = 6 * (3 * 0) + n := z2
        unfold qf_C; omega)
      exact h M2 ⟨hZ1.wc (qg_wF_act hw) hC2 hO2', Or.inl ((hO2'.1 _ _ _ (by unfold qf_C; omega)).trans hf1)⟩ (hO1.tr (hO2'.of1 (fun t j => qf_CX)))
    · rw [if_neg (by omega)] at h
      exact h M hX mv_of1.rf
  · cases ha : qg_art F.1.1 a with
    | none => rw [ha] at h; exact h M hX mv_of1.rf
    | some A =>
      rw [ha] at h
      dsimp only at h
      rw [if_neg (fun z => c1 ⟨A, ha, z⟩)] at h
      exact h M hX mv_of1.rf
noncomputable def op_addQuote (F : qg_F) (a s w h : Int) : Int × qg_F := qg_if (qg_hasS F.1.1 a s ∧ (1 ≤ w ∧ w ≤ 3) ∧ 1 ≤ h ∧ h ≤ 6) (if F.1.1.2.1.length < 8 then ((F.1.1.2.1.length : Int), qg_wc (qg_act F) (F.1.1.1, F.1.1.2.1 ++ [(a.toNat, s.toNat, w.toNat, h.toNat, none)], F.1.1.2.2)) else (-3, F)) (-1, F)
theorem qg_hasS_nat {C : qg_C} {a s : Int} (h : qg_hasS C a s) : 0 ≤ a ∧ 0 ≤ s ∧ qg_own C.1 (a.toNat, s.toNat, 1, 1, none) := by
  obtain ⟨A, ha, hs⟩ := h
  refine ⟨?_, hs.1, A, qg_art_mem ha, ?_⟩
  · unfold qg_art at ha
    split at ha
    · assumption
    · cases ha
  · show s.toNat < A.2.2.length
    omega
theorem wf_addQuote {F : qg_F} (hw : qg_wF F) (a s w h : Int) : qg_wF (op_addQuote F a s w h).2 := by
  unfold op_addQuote
  by_cases hc : qg_hasS F.1.1 a s ∧ (1 ≤ w ∧ w ≤ 3) ∧ 1 ≤ h ∧ h ≤ 6
  · rw [qg_if_pos hc]
    split
    · rename_i h8
      have hC := hw.1.1.1
      have hs := qg_hasS_nat hc.1
      refine qg_wF_wc (qg_wF_act hw) ⟨hC.1, by simp; omega, hC.2.2.1, fun q hq => ?_, hC.2.2.2.2⟩ (fun q hq => ?_)
      · rcases List.mem_append.mp hq with z | z
        · exact hC.2.2.2.1 q z
        · rw [List.mem_singleton.mp z]
          refine ⟨⟨?_, ?_, ?_, ?_, fun p hp => by cases hp⟩, hs.2.2⟩
          · show 1 ≤ w.toNat; omega
          · show w.toNat ≤ 3; omega
          · show 1 ≤ h.toNat; omega
          · show h.toNat ≤ 6; omega
      · rcases List.mem_append.mp hq with z | z
        · exact hw.1.2.1 q z
        · rw [List.mem_singleton.mp z]
          exact qg_inQ_none rfl
    · exact hw
  · rw [qg_if_neg hc]
    exact hw
set_option maxRecDepth 100000 in
theorem sp_X10_addQuote {F : qg_F} {a s w g : Int} {M : mv_M} {Q : mv_R} (hX : qr_X M F) (hw : qg_wF F) (h : ∀ M', qr_X M' (op_addQuote F a s w g).2 → mv_of1 qf_X M M' → Q (some (.inl (op_addQuote F a s w g).1)) M') : E_X10_addQuote [.inr (10, 0), .inl a, .inl s, .inl w, .inl g] M Q := by
  refine ev_X10_addQuote ?_
  unfold op_addQuote at h
  have hC := hw.1.1.1
  have e4 : M.1 1 (3 * 0) 4 = (F.1.1.2.1.length : Int) := hX.1.1.1.2.1
  refine go_X10_addQuote [39] 90 ?_
  have bad : ¬ (qg_hasS F.1.1 a s ∧ (1 ≤ w ∧ w ≤ 3) ∧ 1 ≤ g ∧ g ≤ 6) → J_X10_addQuote Q 39 [some (.inr (10, 0)), some (.inl a), some (.inl s), some (.inl w), some (.inl g), some (.inr (1, 3 * 0))] [] M := by
    intro hc
    rw [qg_if_neg hc] at h
    refine go_X10_addQuote [] 60 ?_
    exact h M hX mv_of1.rf
  refine sp_X1_hasSentence (c := 3 * 0) hX.1.1.1 hC (fun c1 => mv_t ?_) (fun c1 => mv_f (bad (fun z => c1 z.1)))
  refine sp_isWithin (fun c2 => mv_t ?_) (fun c2 => mv_f (bad (fun z => c2 z.2.1)))
  refine sp_isWithin (fun c3 => mv_nt ?_) (fun c3 => mv_nf (bad (fun z => c3 z.2.2)))
  rw [qg_if_pos ⟨c1, c2, c3⟩] at h
  refine And.intro (fun c4 => ?_) (fun c4 => ?_)
  · have hlt : F.1.1.2.1.length < 8 := by omega
    rw [if_pos hlt] at h
    have hn := qg_hasS_nat c1
    refine sp_X10_beginAction hX.1 hw (fun M1 hZ1 hf1 hO1 => ?_)
    obtain ⟨n, rfl⟩ := Int.eq_ofNat_of_zero_le hn.1
    obtain ⟨m, rfl⟩ := Int.eq_ofNat_of_zero_le hn.2.1
    obtain ⟨k, rfl⟩ := Int.eq_ofNat_of_zero_le (by omega : 0 ≤ w)
    obtain ⟨j, rfl⟩ := Int.eq_ofNat_of_zero_le (by omega : 0 ≤ g)
    refine sp_X1_newQuote (c := 0) (C := F.1.1) hZ1.1.1 hlt hC.1 (fun M2 hC2 hO2 => ?_)
    exact h M2 ⟨hZ1.wc (qg_wF_act hw) hC2 hO2, Or.inl ((hO2.1 _ _ _ (by unfold qf_C; omega)).trans hf1)⟩ (hO1.tr (hO2.of1 (fun t j => qf_CX)))
  · rw [if_neg (by omega)] at h
    exact h M hX mv_of1.rf
theorem qg_wC_eraseQ {C : qg_C} (hw : qg_wC C) (n : Nat) : qg_wC (C.1, C.2.1.eraseIdx n, C.2.2) := by
  refine ⟨hw.1, ?_, hw.2.2.1, fun q hq => hw.2.2.2.1 q (List.mem_of_mem_eraseIdx hq), hw.2.2.2.2⟩
  show (C.2.1.eraseIdx n).length ≤ 8
  have := hw.2.1
  rw [List.length_eraseIdx]
  split <;> omega
def op_removeQuote (F : qg_F) (q : Int) : Int × qg_F := if 0 ≤ q ∧ q < (F.1.1.2.1.length : Int) then ((F.1.1.2.1.length : Int) - 1, qg_wc (qg_act F) (F.1.1.1, F.1.1.2.1.eraseIdx q.toNat, F.1.1.2.2)) else (-1, F)
theorem wf_removeQuote {F : qg_F} (hw : qg_wF F) (q : Int) : qg_wF (op_removeQuote F q).2 := by
  unfold op_removeQuote
  split
  · exact qg_wF_wc (qg_wF_act hw) (qg_wC_eraseQ hw.1.1.1 _) (fun x hx => hw.1.2.1 x (List.mem_of_mem_eraseIdx hx))
  · exact hw
set_option maxRecDepth 100000 in
theorem sp_X10_removeQuote {F : qg_F} {q : Int} {M : mv_M} {Q : mv_R} (hX : qr_X M F) (hw : qg_wF F) (h : ∀ M', qr_X M' (op_removeQuote F q).2 → mv_of1 qf_X M M' → Q (some (.inl (op_removeQuote F q).1)) M') : E_X10_removeQuote [.inr (10, 0), .inl q] M Q := by
  refine ev_X10_removeQuote ?_
  refine go_X10_removeQuote [] 60 ?_
  unfold op_removeQuote at h
  have hC := hw.1.1.1
  refine sp_X1_hasQuote hX.1.1.1 hC.2.1 (fun c1 => mv_nt ?_) (fun c1 => mv_nf ?_)
  · rw [if_pos c1] at h
    refine sp_X10_beginAction hX.1 hw (fun M1 hZ1 hf1 hO1 => ?_)
    obtain ⟨n, rfl⟩ := Int.eq_ofNat_of_zero_le c1.1
    refine sp_X1_dropQuote (c := 0) (n := n) (C := F.1.1) rfl hZ1.1.1 (by omega) hC.1 hC.2.1 (fun M2 hC2 hO2 => ?_)
    have e : M2.1 1 (3 * 0) 4 = ((F.1.1.2.1.length : Int) - 1) := by
      have := hC2.2.1
      rw [List.length_eraseIdx, if_pos (by omega)] at this
      have this : M2.1 1 (3 * 0) 4 = ((F.1.1.2.1.length - 1 : Nat) : Int) := this
      omega
    have hh := h M2 ⟨hZ1.wc (qg_wF_act hw) hC2 hO2, Or.inl ((hO2.1 _ _ _ (by unfold qf_C; omega)).trans hf1)⟩ (hO1.tr (hO2.of1 (fun t j => qf_CX)))
    rw [← e] at hh
    exact hh
  · rw [if_neg c1] at h
    exact h M hX mv_of1.rf
theorem qg_reason_in {C : qg_C} {n : Nat} {p : Nat × Nat × Nat} (h : qg_reason C n p = 0) : ¬ qg_out C n p := by
  intro ho
  unfold qg_reason at h
  rw [qg_if_pos ho] at h
  cases h
theorem qg_inC_put {C : qg_C} {n : Nat} {o : Option (Nat × Nat × Nat)} (hi : qg_inC C) (ho : ∀ p, o = some p → ¬ qg_out C n p) : qg_inC (qg_put C n o) := by
  intro r hr
  cases hq : C.2.1[n]? with
  | none =>
    unfold qg_put at hr
    rw [hq] at hr
    exact hi r hr
  | some q =>
    rw [qg_put_eq hq] at hr
    rcases List.mem_or_eq_of_mem_set (show r ∈ C.2.1.set n _ from hr) with hr | hr
    · exact hi r hr
    · rw [hr]
      intro p hp
      have hn := ho p hp
      show p.2.1 + q.2.2.1 ≤ 6 ∧ p.2.2 + q.2.2.2.1 ≤ 20
      have h3 : ¬ (6 < p.2.1 + q.2.2.1 ∨ 20 < p.2.2 + q.2.2.2.1) := fun z => hn ⟨q, hq, z⟩
      omega
noncomputable def op_place (F : qg_F) (q p c r : Int) : Int × qg_F :=
  if (0 ≤ q ∧ q < (F.1.1.2.1.length : Int)) ∧ (0 ≤ p ∧ p ≤ 2) ∧ (0 ≤ c ∧ c ≤ 5) ∧ (0 ≤ r ∧ r ≤ 19) then
    (if qg_reason F.1.1 q.toNat (p.toNat, c.toNat, r.toNat) = 0 then (qg_unrest (qg_put F.1.1 q.toNat (some (p.toNat, c.toNat, r.toNat))).2.1, qg_wc (qg_act F) (qg_put F.1.1 q.toNat (some (p.toNat, c.toNat, r.toNat)))) else (-2, F))
  else (-1, F)
theorem qg_okp_of {p c r : Nat} (h1 : p < 3) (h2 : c < 6) (h3 : r < 20) : qg_okp (some (p, c, r)) := fun x hx => by cases hx; exact ⟨h1, h2, h3⟩
theorem wf_place {F : qg_F} (hw : qg_wF F) (q p c r : Int) : qg_wF (op_place F q p c r).2 := by
  unfold op_place
  split
  · rename_i hc
    split
    · rename_i hr
      refine qg_wF_wc (qg_wF_act hw) (qg_wC_put hw.1.1.1 _ (qg_okp_of (by omega) (by omega) (by omega))) (qg_inC_put hw.1.2.1 (fun x hx => ?_))
      cases hx
      exact qg_reason_in hr
    · exact hw
  · exact hw
theorem qg_at_of {p c r : Nat} (h2 : c < 6) (h3 : r < 20) : qg_at (p * 120 + c * 20 + r) = (p, c, r) := by
  unfold qg_at
  rw [show (p * 120 + c * 20 + r) / 120 = p by omega, show (p * 120 + c * 20 + r) % 120 / 20 = c by omega, show (p * 120 + c * 20 + r) % 20 = r by omega]
set_option maxRecDepth 100000 in
theorem sp_X10_place {F : qg_F} {q p c r : Int} {M : mv_M} {Q : mv_R} (hX : qr_X M F) (hw : qg_wF F) (h : ∀ M', qr_X M' (op_place F q p c r).2 → mv_of1 qf_X M M' → Q (some (.inl (op_place F q p c r).1)) M') : E_X10_place [.inr (10, 0), .inl q, .inl p, .inl c, .inl r] M Q := by
  refine ev_X10_place ?_
  refine go_X10_place [28] 90 ?_
  unfold op_place at h
  have hC := hw.1.1.1
  have w8 := hC.2.1
  have bad : ¬ ((0 ≤ q ∧ q < (F.1.1.2.1.length : Int)) ∧ (0 ≤ p ∧ p ≤ 2) ∧ (0 ≤ c ∧ c ≤ 5) ∧ (0 ≤ r ∧ r ≤ 19)) → J_X10_place Q 28 [some (.inr (10, 0)), some (.inl q), some (.inl p), some (.inl c), some (.inl r), some (.inr (1, 3 * 0)), none] [] M := by
    intro hc
    rw [if_neg hc] at h
    refine go_X10_place [] 60 ?_
    exact h M hX mv_of1.rf
  refine sp_X1_hasQuote (c := 3 * 0) hX.1.1.1 hC.2.1 (fun c1 => mv_t ?_) (fun c1 => mv_f (bad (fun z => c1 z.1)))
  refine sp_isPlace (fun c2 => mv_nt ?_) (fun c2 => mv_nf (bad (fun z => c2 z.2)))
  rw [if_pos ⟨c1, c2⟩] at h
  obtain ⟨n, rfl⟩ := Int.eq_ofNat_of_zero_le c1.1
  obtain ⟨a, rfl⟩ := Int.eq_ofNat_of_zero_le c2.1.1
  obtain ⟨b, rfl⟩ := Int.eq_ofNat_of_zero_le c2.2.1.1
  obtain ⟨d, rfl⟩ := Int.eq_ofNat_of_zero_le c2.2.2.1
  simp only [Int.toNat_natCast] at h
  have hn : n < F.1.1.2.1.length := by omega
  refine sp_moduleAt (p := a) (c := b) (r := d) rfl rfl rfl (by omega) (by omega) (by omega) ?_
  refine sp_X9_prepare (c := 3 * 0) (n := n) rfl (by decide) hX.1.1.1 hC hn (fun M1 hT1 hO1 => ?_)
  refine sp_X9_reasonAt (n := n) (m := a * 120 + b * 20 + d) hT1 hC hn (by omega) (fun M2 hT2 hO2 h92 => ?_)
  rw [qg_at_of (by omega) (by omega)]
  have hX2 : qr_X M2 F := (hX.frT hw hO1).frT hw hO2
  have hO12 : mv_of1 qf_X M M2 := (hO1.of1 (fun t j => qf_TX)).tr (hO2.of1 (fun t j => qf_TX))
  refine And.intro (fun c3 => ?_) (fun c3 => ?_)
  · rw [if_pos c3] at h
    refine sp_X10_beginAction hX2.1 hw (fun M3 hZ3 hf3 hO3 => ?_)
    obtain ⟨qq, hq⟩ := qg_some hn
    refine And.intro (by omega) ?_
    refine sp_X5_moveTo (m := a * 120 + b * 20 + d) rfl (hZ3.1.1.2.2.2.1 n qq hq) (fun M4 hq4 hO4 => ?_)
    rw [qg_at_of (by omega) (by omega)] at hq4
    have hC4 : qr_C M4 0 (qg_put F.1.1 n (some (a, b, d))) := (show qr_C M3 0 F.1.1 from hZ3.1.1).put hq hq4 (fun t j k hn => hO4.1 t j k (fun z => hn ⟨z.1, by rw [z.2]; rfl⟩))
    have hwp := qg_wC_put hC n (qg_okp_of (p := a) (c := b) (r := d) (by omega) (by omega) (by omega))
    refine sp_X1_unrest (c := 3 * 0) hC4 hwp.2.1 (fun x hx => (hwp.2.2.2.1 x hx).1) ?_
    have hO4' : mv_off (qf_C 0) M3 M4 := hO4.wk (fun t j z => by
      obtain ⟨z1, z2⟩ := z
      have z2 : j = 8 * (3 * 0) + n := z2
      unfold qf_C; omega)
    exact h M4 ⟨hZ3.wc (qg_wF_act hw) hC4 hO4', Or.inl ((hO4'.1 _ _ _ (by unfold qf_C; omega)).trans hf3)⟩ (hO12.tr (hO3.tr (hO4'.of1 (fun t j => qf_CX))))
  · rw [if_neg c3] at h
    exact h M2 hX2 hO12
