/-! The public methods of the class: articles, sentences, quotes. -/
theorem qg_inQ_none {q : qg_Q} (h : q.2.2.2.2 = none) : qg_inQ q := fun p hp => by rw [h] at hp; cases hp
def op_addArticle (F : qg_F) (s l : Int) : Int × qg_F := if (0 ≤ s ∧ s ≤ 359) ∧ 1 ≤ l ∧ l ≤ 200 then (if F.1.1.1.length < 6 then ((F.1.1.1.length : Int), qg_wc (qg_act F) (F.1.1.1 ++ [(s.toNat, l.toNat, [])], F.1.1.2)) else (-3, F)) else (-1, F)
theorem wf_addArticle {F : qg_F} (hw : qg_wF F) (s l : Int) : qg_wF (op_addArticle F s l).2 := by
  unfold op_addArticle
  split
  · rename_i hc
    split
    · rename_i h6
      have hC := hw.1.1.1
      refine qg_wF_wc (qg_wF_act hw) ⟨by simp; omega, hC.2.1, fun a ha => ?_, fun q hq => ⟨(hC.2.2.2.1 q hq).1, ?_⟩, hC.2.2.2.2⟩ hw.1.2.1
      · rcases List.mem_append.mp ha with z | z
        · exact hC.2.2.1 a z
        · rw [List.mem_singleton.mp z]
          exact ⟨by show s.toNat < 360; omega, by show 1 ≤ l.toNat; omega, by show l.toNat ≤ 200; omega, Nat.zero_le _, fun x hx => by cases hx⟩
      · obtain ⟨A, hA, hs⟩ := (hC.2.2.2.1 q hq).2
        exact ⟨A, by rw [List.getElem?_append_left (List.getElem?_eq_some_iff.mp hA).1]; exact hA, hs⟩
    · exact hw
  · exact hw
set_option maxRecDepth 100000 in
theorem sp_X10_addArticle {F : qg_F} {s l : Int} {M : mv_M} {Q : mv_R} (hX : qr_X M F) (hw : qg_wF F) (h : ∀ M', qr_X M' (op_addArticle F s l).2 → mv_of1 qf_X M M' → Q (some (.inl (op_addArticle F s l).1)) M') : E_X10_addArticle [.inr (10, 0), .inl s, .inl l] M Q := by
  refine ev_X10_addArticle ?_
  refine go_X10_addArticle [26] 60 ?_
  have bad : ¬ ((0 ≤ s ∧ s ≤ 359) ∧ 1 ≤ l ∧ l ≤ 200) → J_X10_addArticle Q 26 [some (.inr (10, 0)), some (.inl s), some (.inl l), some (.inr (1, 3 * 0))] [] M := by
    intro hc
    unfold op_addArticle at h
    rw [if_neg hc] at h
    refine go_X10_addArticle [] 60 ?_
    exact h M hX mv_of1.rf
  have e3 : M.1 1 (3 * 0) 3 = (F.1.1.1.length : Int) := hX.1.1.1.1
  refine sp_isModule (fun c1 => mv_t ?_) (fun c1 => mv_f (bad (by omega)))
  refine sp_isWithin (fun c2 => mv_nt ?_) (fun c2 => mv_nf (bad (by omega)))
  unfold op_addArticle at h
  rw [if_pos (by omega)] at h
  refine And.intro (fun c3 => ?_) (fun c3 => ?_)
  · have hlt : F.1.1.1.length < 6 := by omega
    rw [if_pos hlt] at h
    refine sp_X10_beginAction hX.1 hw (fun M1 hZ1 hf1 hO1 => ?_)
    obtain ⟨n, rfl⟩ := Int.eq_ofNat_of_zero_le c1.1
    obtain ⟨m, rfl⟩ := Int.eq_ofNat_of_zero_le (by omega : 0 ≤ l)
    refine sp_X1_newArticle (c := 0) (C := F.1.1) hZ1.1.1 hlt hw.1.1.1.2.1 (fun M2 hC2 hO2 => ?_)
    exact h M2 ⟨hZ1.wc (qg_wF_act hw) hC2 hO2, Or.inl ((hO2.1 _ _ _ (by unfold qf_C; omega)).trans hf1)⟩ (hO1.tr (hO2.of1 (fun t j => qf_CX)))
  · rw [if_neg (by omega)] at h
    exact h M hX mv_of1.rf
def op_removeArticle (F : qg_F) (a : Int) : Int × qg_F := if 0 ≤ a ∧ a < (F.1.1.1.length : Int) then ((F.1.1.1.length : Int) - 1, qg_wc (qg_act F) (F.1.1.1.eraseIdx a.toNat, qg_dropQs a.toNat F.1.1.2.1, F.1.1.2.2)) else (-1, F)
theorem qg_dropQs_mem {a : Nat} {qs : List qg_Q} {q : qg_Q} (h : q ∈ qg_dropQs a qs) : ∃ r ∈ qs, r.1 ≠ a ∧ q = qg_dec a r := by
  unfold qg_dropQs at h
  obtain ⟨r, hr, rfl⟩ := List.mem_map.mp h
  obtain ⟨h1, h2⟩ := List.mem_filter.mp hr
  exact ⟨r, h1, by simpa using h2, rfl⟩
theorem wf_removeArticle {F : qg_F} (hw : qg_wF F) (a : Int) : qg_wF (op_removeArticle F a).2 := by
  unfold op_removeArticle
  split
  · rename_i hc
    have hC := hw.1.1.1
    have ha : a.toNat < F.1.1.1.length := by omega
    refine qg_wF_wc (qg_wF_act hw) ⟨?_, Nat.le_trans (qg_dropQs_len _ _) hC.2.1, fun x hx => hC.2.2.1 x (List.mem_of_mem_eraseIdx hx), fun q hq => ?_, hC.2.2.2.2⟩ (fun q hq => ?_)
    · show (F.1.1.1.eraseIdx a.toNat).length ≤ 6
      rw [List.length_eraseIdx, if_pos ha]
      have := hC.1
      omega
    · obtain ⟨r, hr, hne, rfl⟩ := qg_dropQs_mem hq
      refine ⟨(hC.2.2.2.1 r hr).1, ?_⟩
      obtain ⟨A, hA, hs⟩ := (hC.2.2.2.1 r hr).2
      refine ⟨A, ?_, hs⟩
      show (F.1.1.1.eraseIdx a.toNat)[if a.toNat < r.1 then r.1 - 1 else r.1]? = some A
      rw [List.getElem?_eraseIdx]
      by_cases hlt : a.toNat < r.1
      · rw [if_pos hlt, if_neg (by omega), show r.1 - 1 + 1 = r.1 by omega]
        exact hA
      · rw [if_neg hlt, if_pos (by omega)]
        exact hA
    · obtain ⟨r, hr, hne, rfl⟩ := qg_dropQs_mem hq
      exact hw.1.2.1 r hr
  · exact hw
set_option maxRecDepth 100000 in
theorem sp_X10_removeArticle {F : qg_F} {a : Int} {M : mv_M} {Q : mv_R} (hX : qr_X M F) (hw : qg_wF F) (h : ∀ M', qr_X M' (op_removeArticle F a).2 → mv_of1 qf_X M M' → Q (some (.inl (op_removeArticle F a).1)) M') : E_X10_removeArticle [.inr (10, 0), .inl a] M Q := by
  refine ev_X10_removeArticle ?_
  refine go_X10_removeArticle [] 60 ?_
  unfold op_removeArticle at h
  refine sp_X1_hasArticle hX.1.1.1 hw.1.1.1.1 (fun c1 => mv_nt ?_) (fun c1 => mv_nf ?_)
  · rw [if_pos c1] at h
    refine sp_X10_beginAction hX.1 hw (fun M1 hZ1 hf1 hO1 => ?_)
    obtain ⟨n, rfl⟩ := Int.eq_ofNat_of_zero_le c1.1
    refine sp_X1_dropArticle (c := 0) (C := F.1.1) hZ1.1.1 hw.1.1.1 (by omega) (fun M2 hC2 hO2 => ?_)
    have e : M2.1 1 (3 * 0) 3 = ((F.1.1.1.length : Int) - 1) := by
      have := hC2.1
      rw [List.length_eraseIdx, if_pos (by omega)] at this
      have this : M2.1 1 (3 * 0) 3 = ((F.1.1.1.length - 1 : Nat) : Int) := this
      omega
    have hh := h M2 ⟨hZ1.wc (qg_wF_act hw) hC2 hO2, Or.inl ((hO2.1 _ _ _ (by unfold qf_C; omega)).trans hf1)⟩ (hO1.tr (hO2.of1 (fun t j => qf_CX)))
    rw [← e] at hh
    exact hh
  · rw [if_neg c1] at h
    exact h M hX mv_of1.rf
def op_setArticle (F : qg_F) (a w v : Int) : Int × qg_F := match qg_art F.1.1 a with
  | none => (-1, F)
  | some A =>
    if w = 0 then (if 0 ≤ v ∧ v ≤ 359 then ((A.1 : Int), qg_wc (qg_act F) (F.1.1.1.set a.toNat (v.toNat, A.2), F.1.1.2)) else (-1, F))
    else if w = 1 then (if (1 ≤ v ∧ v ≤ 200) ∧ ∀ l ∈ A.2.2, (l : Int) < v then ((A.2.1 : Int), qg_wc (qg_act F) (F.1.1.1.set a.toNat (A.1, v.toNat, A.2.2), F.1.1.2)) else (-1, F))
    else (-1, F)
theorem qg_art_mem {C : qg_C} {a : Int} {A : qg_A} (h : qg_art C a = some A) : C.1[a.toNat]? = some A := by
  unfold qg_art at h
  split at h
  · exact h
  · cases h
theorem qg_quo_mem {C : qg_C} {a : Int} {q : qg_Q} (h : qg_quo C a = some q) : C.2.1[a.toNat]? = some q := by
  unfold qg_quo at h
  split at h
  · exact h
  · cases h
theorem wf_setArticle {F : qg_F} (hw : qg_wF F) (a w v : Int) : qg_wF (op_setArticle F a w v).2 := by
  unfold op_setArticle
  split
  · exact hw
  · rename_i A hA
    have hA := qg_art_mem hA
    have hC := hw.1.1.1
    have hwA := hC.2.2.1 A (List.mem_of_getElem? hA)
    split
    · split
      · exact qg_wF_wc (qg_wF_act hw) (qg_wC_setA hC hA (B := (v.toNat, A.2)) ⟨by show v.toNat < 360; omega, hwA.2⟩ rfl) hw.1.2.1
      · exact hw
    · split
      · split
        · rename_i hc
          refine qg_wF_wc (qg_wF_act hw) (qg_wC_setA hC hA (B := (A.1, v.toNat, A.2.2)) ⟨hwA.1, by show 1 ≤ v.toNat; omega, by show v.toNat ≤ 200; omega, hwA.2.2.2.1, fun l hl => ?_⟩ rfl) hw.1.2.1
          have := hc.2 l hl
          show l < v.toNat
          omega
        · exact hw
      · exact hw
set_option maxRecDepth 100000 in
theorem sp_X10_setArticle {F : qg_F} {a w v : Int} {M : mv_M} {Q : mv_R} (hX : qr_X M F) (hw : qg_wF F) (h : ∀ M', qr_X M' (op_setArticle F a w v).2 → mv_of1 qf_X M M' → Q (some (.inl (op_setArticle F a w v).1)) M') : E_X10_setArticle [.inr (10, 0), .inl a, .inl w, .inl v] M Q := by
  refine ev_X10_setArticle ?_
  refine go_X10_setArticle [] 90 ?_
  unfold op_setArticle at h
  refine sp_X1_hasArticle hX.1.1.1 hw.1.1.1.1 (fun c1 => mv_t ?_) (fun c1 => mv_f ?_)
  · obtain ⟨n, A, rfl, hn, hA, ha⟩ := qg_art_some c1
    rw [ha] at h
    dsimp only at h
    have hC := hw.1.1.1
    have w6 := hC.1
    have hwA := hC.2.2.1 A (List.mem_of_getElem? hA)
    refine sp_isWithin (fun c2 => mv_nt ?_) (fun c2 => mv_nf ?_)
    · refine And.intro (by omega) ?_
      refine And.intro (fun c3 => ?_) (fun c3 => ?_)
      · have hw1 : w = 1 := by omega
        subst hw1
        rw [if_neg c3, if_pos rfl] at h
        refine sp_X0_leastLength (A := A) (hX.1.1.1.2.2.1 n A hA) hwA (fun r r1 r2 hr => ?_)
        refine sp_isWithin (fun c4 => mv_nt ?_) (fun c4 => mv_nf ?_)
        · rw [if_pos ⟨by omega, ((hr v).mp c4.1).2⟩] at h
          refine sp_X10_beginAction hX.1 hw (fun M1 hZ1 hf1 hO1 => ?_)
          obtain ⟨m, rfl⟩ := Int.eq_ofNat_of_zero_le (by omega : 0 ≤ v)
          have hA1 := hZ1.1.1.2.2.1 n A hA
          have hC2 := (show qr_C M1 0 F.1.1 from hZ1.1.1).setA (n := n) (B := (A.1, m, A.2.2)) (M' := (mv_up M1.1 0 (6 * (3 * 0) + n) 2 (m : Int), M1.2)) ⟨?_, ?_, ?_, fun k l hk => ?_⟩ (fun t j k hn => mv_up_ne (fun z => hn ⟨Or.inl z.1, by rw [z.2.1]⟩))
          · have hO2 : mv_off (qf_C 0) M1 (mv_up M1.1 0 (6 * (3 * 0) + n) 2 (m : Int), M1.2) := mv_off.rf.up (by unfold qf_C; omega)
            have e : M1.1 0 (6 * (3 * 0) + (n : Int).toNat) 2 = (A.2.1 : Int) := hA1.2.1
            have hh := h _ ⟨hZ1.wc (qg_wF_act hw) hC2 hO2, Or.inl ((hO2.1 _ _ _ (by unfold qf_C; omega)).trans hf1)⟩ (hO1.tr (hO2.of1 (fun t j => qf_CX)))
            rw [← e] at hh
            exact hh
          · simpa [mv_up] using hA1.1
          · simp [mv_up]
          · simpa [mv_up] using hA1.2.2.1
          · simpa [mv_up] using hA1.2.2.2 k l hk
        · rw [if_neg (fun z => c4 ⟨(hr v).mpr ⟨z.1.1, z.2⟩, z.1.2⟩)] at h
          exact h M hX mv_of1.rf
      · have hw0 : w = 0 := by omega
        subst hw0
        rw [if_pos rfl] at h
        refine sp_isModule (fun c4 => mv_nt ?_) (fun c4 => mv_nf ?_)
        · rw [if_pos c4] at h
          refine sp_X10_beginAction hX.1 hw (fun M1 hZ1 hf1 hO1 => ?_)
          obtain ⟨m, rfl⟩ := Int.eq_ofNat_of_zero_le c4.1
          have hA1 := hZ1.1.1.2.2.1 n A hA
          have hC2 := (show qr_C M1 0 F.1.1 from hZ1.1.1).setA (n := n) (B := (m, A.2)) (M' := (mv_up M1.1 0 (6 * (3 * 0) + n) 1 (m : Int), M1.2)) ⟨?_, ?_, ?_, fun k l hk => ?_⟩ (fun t j k hn => mv_up_ne (fun z => hn ⟨Or.inl z.1, by rw [z.2.1]⟩))
          · have hO2 : mv_off (qf_C 0) M1 (mv_up M1.1 0 (6 * (3 * 0) + n) 1 (m : Int), M1.2) := mv_off.rf.up (by unfold qf_C; omega)
            have e : M1.1 0 (6 * (3 * 0) + (n : Int).toNat) 1 = (A.1 : Int) := hA1.1
            have hh := h _ ⟨hZ1.wc (qg_wF_act hw) hC2 hO2, Or.inl ((hO2.1 _ _ _ (by unfold qf_C; omega)).trans hf1)⟩ (hO1.tr (hO2.of1 (fun t j => qf_CX)))
            rw [← e] at hh
            exact hh
          · simp [mv_up]
          · simpa [mv_up] using hA1.2.1
          · simpa [mv_up] using hA1.2.2.1
          · simpa [mv_up] using hA1.2.2.2 k l hk
        · rw [if_neg c4] at h
          exact h M hX mv_of1.rf
    · rw [if_neg (by omega), if_neg (by omega)] at h
      exact h M hX mv_of1.rf
  · rw [qg_art_none c1] at h
    exact h M hX mv_of1.rf
