/-! The public methods of the class: snapshots, undo, text. -/
theorem mv_eqp {f : Nat → Nat → Nat → Int} {p : Nat → Nat} {t j k : Nat} {x : Int} : ((mv_up f t j k x, p) : mv_M).1 t j k = x := mv_up_eq
theorem mv_nep {f : Nat → Nat → Nat → Int} {p : Nat → Nat} {t j k a b c : Nat} {x : Int} (h : ¬ (a = t ∧ b = j ∧ c = k)) : ((mv_up f t j k x, p) : mv_M).1 a b c = f a b c := mv_up_ne h
def qg_setSn (S : qg_S) (k : Nat) (C : qg_C) : qg_S := (S.1, if k = 0 then some C else S.2.1, if k = 0 then S.2.2 else some C)
theorem qg_sn_set (S : qg_S) (k i : Nat) (C : qg_C) (hk : k < 2) (hi : i < 2) : qg_sn (qg_setSn S k C) i = if i = k then some C else qg_sn S i := by
  have h1 : k = 0 ∨ k = 1 := by omega
  have h2 : i = 0 ∨ i = 1 := by omega
  rcases h1 with rfl | rfl <;> rcases h2 with rfl | rfl <;> rfl
theorem qg_okS_set {S : qg_S} (h : qg_okS S) {k : Nat} {C : qg_C} (hC : qg_wC C) (hi : qg_inC C) : qg_okS (qg_setSn S k C) := by
  have key : ∀ i D, qg_sn (qg_setSn S k C) i = some D → D = C ∨ ∃ j, qg_sn S j = some D := by
    intro i D hD
    unfold qg_sn qg_setSn at hD
    dsimp only at hD
    by_cases h0 : i = 0
    · rw [if_pos h0] at hD
      by_cases hk : k = 0
      · rw [if_pos hk] at hD; cases hD; exact Or.inl rfl
      · rw [if_neg hk] at hD; exact Or.inr ⟨0, hD⟩
    · rw [if_neg h0] at hD
      by_cases hk : k = 0
      · rw [if_pos hk] at hD; exact Or.inr ⟨1, hD⟩
      · rw [if_neg hk] at hD; cases hD; exact Or.inl rfl
  refine ⟨⟨h.1.1, fun i D hD => ?_⟩, h.2.1, fun i D hD => ?_⟩
  · rcases key i D hD with rfl | ⟨j, hj⟩
    · exact hC
    · exact h.1.2 j D hj
  · rcases key i D hD with rfl | ⟨j, hj⟩
    · exact hi
    · exact h.2.2 j D hj
def op_take (F : qg_F) (s : Int) : Int × qg_F := if 0 ≤ s ∧ s ≤ 1 then ((qg_placed F.1.1.2.1 : Int), (qg_setSn F.1 s.toNat F.1.1, (qg_act F).2)) else (-1, F)
theorem wf_take {F : qg_F} (hw : qg_wF F) (s : Int) : qg_wF (op_take F s).2 := by
  unfold op_take
  split
  · exact ⟨qg_okS_set hw.1 hw.1.1.1 hw.1.2.1, (qg_wF_act hw).2⟩
  · exact hw
set_option maxRecDepth 100000 in
theorem sp_X10_take {F : qg_F} {s : Int} {M : mv_M} {Q : mv_R} (hX : qr_X M F) (hw : qg_wF F) (h : ∀ M', qr_X M' (op_take F s).2 → mv_of1 qf_X M M' → Q (some (.inl (op_take F s).1)) M') : E_X10_take [.inr (10, 0), .inl s] M Q := by
  refine ev_X10_take ?_
  refine go_X10_take [] 90 ?_
  unfold op_take at h
  have hC := hw.1.1.1
  refine sp_isWithin (fun c1 => mv_nt ?_) (fun c1 => mv_nf ?_)
  · rw [if_pos c1] at h
    obtain ⟨n, rfl⟩ := Int.eq_ofNat_of_zero_le c1.1
    have hn : n < 2 := by omega
    rw [Int.toNat_natCast] at h
    have hwa := qg_wF_act hw
    refine sp_X10_beginAction hX.1 hw (fun M1 hZ1 hf1 hO1 => ?_)
    refine And.intro (by omega) ?_
    refine sp_X1_copyFrom (c := 3 * 0 + 1 + n) (d := 3 * 0) (C := F.1.1) (by omega) hZ1.1.1 hC (fun M2 hC2 hO2 => ?_)
    refine And.intro (by omega) ?_
    refine And.intro (Or.inr rfl) ?_
    have hO3 : mv_off (fun t j => qf_C (3 * 0 + 1 + n) t j ∨ (t = 17 ∧ j = 0)) M1 (mv_up M2.1 17 0 n 1, M2.2) := (hO2.wk (fun t j z => Or.inl z)).up (Or.inr ⟨rfl, rfl⟩)
    have f3 : ∀ {t j : Nat} (k : Nat), ¬ (t = 17 ∧ j = 0 ∧ k = n) → mv_up M2.1 17 0 n 1 t j k = M2.1 t j k := fun k hn => mv_up_ne hn
    have up : ∀ {c C}, qr_C M2 c C → qg_wC C → qr_C (mv_up M2.1 17 0 n 1, M2.2) c C := fun hh hw => hh.fr hw (fun t j k hf => f3 k (fun z => by unfold qf_C at hf; omega))
    have hZ3 : qr_Z (mv_up M2.1 17 0 n 1, M2.2) (qg_setSn F.1 n F.1.1, (qg_act F).2) := by
      obtain ⟨hS, ⟨e1, e5, er, ei, eL⟩, eT, eS⟩ := hZ1
      refine ⟨⟨up ((show qr_C M1 0 F.1.1 from hS.1).fr hC (fun t j k hf => hO2.1 t j k (qf_ne (by omega) hf))) hC, fun k hk => ?_⟩, ⟨(hO3.1 _ _ _ (by unfold qf_C; omega)).trans e1, e5, by show ∀ i, i < 5 → 1 ≤ M2.2 i ∧ M2.2 i ≤ 5; rw [hO2.2]; exact er, by show ∀ i j, i < 5 → j < 5 → M2.2 i = M2.2 j → i = j; rw [hO2.2]; exact ei, fun i S hi => ?_⟩, (hO3.1 _ _ _ (by unfold qf_C; omega)).trans eT, fun k s hk => (hO3.1 _ _ _ (by unfold qf_C; omega)).trans (eS k s hk)⟩
      · show qr_O _ 0 k (qg_sn (qg_setSn F.1 n F.1.1) k)
        rw [qg_sn_set _ _ _ _ hn hk]
        by_cases hkn : k = n
        · subst hkn
          rw [if_pos rfl]
          exact ⟨mv_up_eq, up hC2 hC⟩
        · rw [if_neg hkn]
          have h1 : qr_O M1 0 k (qg_sn F.1 k) := hS.2 k hk
          have e17 : mv_up M2.1 17 0 n 1 17 0 k = M1.1 17 0 k := (f3 k (by omega)).trans (hO2.1 _ _ _ (by unfold qf_C; omega))
          cases ho : qg_sn F.1 k with
          | none => rw [ho] at h1; exact e17.trans h1
          | some D =>
            rw [ho] at h1
            have hwD := hw.1.1.2 k D ho
            exact ⟨e17.trans h1.1, up (h1.2.fr hwD (fun t j i hf => hO2.1 t j i (qf_ne (by omega) hf))) hwD⟩
      · show qr_S _ (M2.2 i) S
        rw [hO2.2]
        have hlt : i < (qg_act F).2.1.length := (List.getElem?_eq_some_iff.mp hi).1
        have hri := er i (by omega)
        refine (eL i S hi).fr (hwa.2.1 S (List.mem_of_getElem? hi)).1 (fun t j k hf => hO3.1 t j k (fun z => ?_))
        rcases z with z | z
        · exact qf_S_ne (s := 0) (u := M1.2 i) (by omega) hf (qf_SC z (by omega) (by omega))
        · unfold qf_S at hf; omega
    refine sp_X1_placedQuotes (c := 3 * 0) (C := F.1.1) hZ3.1.1 hC.2.1 ?_
    refine h _ ⟨hZ3, Or.inl ((hO3.1 _ _ _ (by unfold qf_C; omega)).trans hf1)⟩ (hO1.tr (hO3.of1 (fun t j z => ?_)))
    rcases z with z | z
    · exact qf_CX z
    · unfold qf_X; omega
  · rw [if_neg c1] at h
    exact h M hX mv_of1.rf
def op_restore (F : qg_F) (s : Int) : Int × qg_F := if 0 ≤ s ∧ s ≤ 1 then (match qg_sn F.1 s.toNat with
  | none => (-2, F)
  | some C => ((qg_placed C.2.1 : Int), qg_wc (qg_act F) C)) else (-1, F)
theorem wf_restore {F : qg_F} (hw : qg_wF F) (s : Int) : qg_wF (op_restore F s).2 := by
  unfold op_restore
  split
  · split
    · exact hw
    · rename_i C hC
      exact qg_wF_wc (qg_wF_act hw) (hw.1.1.2 _ C hC) (hw.1.2.2 _ C hC)
  · exact hw
set_option maxRecDepth 100000 in
theorem sp_X10_restore {F : qg_F} {s : Int} {M : mv_M} {Q : mv_R} (hX : qr_X M F) (hw : qg_wF F) (h : ∀ M', qr_X M' (op_restore F s).2 → mv_of1 qf_X M M' → Q (some (.inl (op_restore F s).1)) M') : E_X10_restore [.inr (10, 0), .inl s] M Q := by
  refine ev_X10_restore ?_
  refine go_X10_restore [] 90 ?_
  unfold op_restore at h
  refine sp_isWithin (fun c1 => mv_nt ?_) (fun c1 => mv_nf ?_)
  · rw [if_pos c1] at h
    obtain ⟨n, rfl⟩ := Int.eq_ofNat_of_zero_le c1.1
    have hn : n < 2 := by omega
    rw [Int.toNat_natCast] at h
    have hO0 := hX.1.1.2 n hn
    refine And.intro (by omega) ?_
    cases ho : qg_sn F.1 n with
    | none =>
      rw [ho] at h hO0
      refine And.intro (fun c2 => absurd hO0 c2) (fun _ => ?_)
      exact h M hX mv_of1.rf
    | some C =>
      rw [ho] at h hO0
      have hwC := hw.1.1.2 n C ho
      have e17 : M.1 17 0 (n : Int).toNat = 1 := hO0.1
      refine And.intro (fun _ => ?_) (fun c2 => absurd c2 (by omega))
      refine sp_X10_beginAction hX.1 hw (fun M1 hZ1 hf1 hO1 => ?_)
      refine And.intro (by omega) ?_
      have h1 : qr_O M1 0 n (qg_sn F.1 n) := hZ1.1.2 n hn
      rw [ho] at h1
      refine sp_X1_copyFrom (c := 3 * 0) (d := 3 * 0 + 1 + n) (C := C) (by omega) h1.2 hwC (fun M2 hC2 hO2 => ?_)
      refine sp_X1_placedQuotes (c := 3 * 0) (C := C) hC2 hwC.2.1 ?_
      exact h M2 ⟨hZ1.wc (qg_wF_act hw) hC2 hO2, Or.inl ((hO2.1 _ _ _ (by unfold qf_C; omega)).trans hf1)⟩ (hO1.tr (hO2.of1 (fun t j => qf_CX)))
  · rw [if_neg c1] at h
    exact h M hX mv_of1.rf
def op_undo (F : qg_F) : Int × qg_F := match F.2.1.getLast? with
  | none => (-2, F)
  | some T => ((F.2.1.dropLast.length : Int), (T, F.2.1.dropLast, F.2.2))
theorem qg_last {α : Type} (l : List α) : l = [] ∨ ∃ L b, l = L ++ [b] := by
  rcases List.eq_nil_or_concat l with h | ⟨L, b, h⟩
  · exact Or.inl h
  · exact Or.inr ⟨L, b, by rw [h, List.concat_eq_append]⟩
theorem wf_undo {F : qg_F} (hw : qg_wF F) : qg_wF (op_undo F).2 := by
  unfold op_undo
  rcases qg_last F.2.1 with e | ⟨L, b, e⟩
  · rw [e]; exact hw
  · have h1 := hw.2.1
    have h2 := hw.2.2.1
    rw [e] at h1 h2 ⊢
    simp only [List.getLast?_append, List.getLast?_singleton, Option.some_or, List.dropLast_concat]
    simp at h2
    exact ⟨h1 b (by simp), fun S hS => h1 S (List.mem_append_left _ hS), by show L.length ≤ 5; omega, hw.2.2.2⟩
set_option maxRecDepth 100000 in
theorem sp_X10_undo {F : qg_F} {M : mv_M} {Q : mv_R} (hX : qr_X M F) (hw : qg_wF F) (h : ∀ M', qr_X M' (op_undo F).2 → mv_of1 qf_X M M' → Q (some (.inl (op_undo F).1)) M') : E_X10_undo [.inr (10, 0)] M Q := by
  refine ev_X10_undo ?_
  refine go_X10_undo [] 90 ?_
  unfold op_undo at h
  have eH := hX.1.2.1.1
  rcases qg_last F.2.1 with e | ⟨L, b, e⟩
  · rw [e] at h eH
    refine And.intro (fun c1 => absurd eH c1) (fun _ => ?_)
    exact h M hX mv_of1.rf
  · have hH := hX.1.2.1
    have h1 := hw.2.1
    rw [e] at h eH hH h1
    simp only [List.getLast?_append, List.getLast?_singleton, Option.some_or, List.dropLast_concat] at h
    simp at eH
    refine And.intro (fun _ => ?_) (fun c1 => absurd c1 (by omega))
    refine sp_X3_giveBackTo hH (fun T hT => (h1 T (List.mem_append_left _ hT)).1) (h1 b (by simp)).1 (fun M1 hH1 hS1 hO1 => ?_)
    refine And.intro (Or.inr rfl) ?_
    have fr : ∀ {s T}, qg_wS T → qr_S M1 s T → qr_S (mv_up M1.1 10 0 6 1, M1.2) s T := fun hw hh => hh.fr hw (fun t j k hf => mv_up_ne (fun z => by unfold qf_S at hf; omega))
    obtain ⟨e1, e5, er, ei, eL⟩ := hH1
    have u10 : ∀ {t j : Nat} (k : Nat), ¬ t = 10 → mv_up M1.1 10 0 6 1 t j k = M1.1 t j k := fun k hn => mv_up_ne (fun z => hn z.1)
    have hh := h (mv_up M1.1 10 0 6 1, M1.2) ⟨⟨fr (h1 b (by simp)).1 hS1, ⟨(u10 1 (by decide)).trans e1, e5, er, ei, fun i T hi => fr (h1 T (List.mem_append_left _ (List.mem_of_getElem? hi))).1 (eL i T hi)⟩, (u10 1 (by decide)).trans ((hO1.1 _ _ _ (by unfold qf_S; omega)).trans hX.1.2.2.1), fun k s hk => (u10 k (by decide)).trans ((hO1.1 _ _ _ (by unfold qf_S; omega)).trans (hX.1.2.2.2 k s hk))⟩, Or.inl mv_eqp⟩ (fun t j k hf => ?_)
    · rw [← e1] at hh
      exact hh
    · refine (mv_up_ne (fun z => hf (by unfold qf_X; omega))).trans (hO1.1 t j k (fun z => hf ?_))
      rcases z with z | z
      · unfold qf_X; omega
      · unfold qf_S at z; unfold qf_X; omega
theorem qr_X.tx {M M' : mv_M} {F : qg_F} {tx : List Nat} (h : qr_X M F) (hw : qg_wF F) (hT : qr_Tx M' tx) (h0 : ∀ t j k, ¬ t = 8 → ¬ t = 19 → M'.1 t j k = M.1 t j k) (h2 : M'.2 = M.2) : qr_X M' (F.1, F.2.1, tx) := by
  obtain ⟨⟨hS, ⟨e1, e5, er, ei, eL⟩, -⟩, hf⟩ := h
  have n : ∀ s t j k, qf_S s t j → M'.1 t j k = M.1 t j k := fun s t j k hf => h0 t j k (by unfold qf_S at hf; omega) (by unfold qf_S at hf; omega)
  refine ⟨⟨hS.fr hw.1.1 (n 0), ⟨(h0 _ _ _ (by decide) (by decide)).trans e1, e5, by rw [h2]; exact er, by rw [h2]; exact ei, fun i S hi => by rw [h2]; exact (eL i S hi).fr (hw.2.1 S (List.mem_of_getElem? hi)).1 (n _)⟩, hT⟩, ?_⟩
  have e10 := h0 10 0 6 (by decide) (by decide)
  rcases hf with z | ⟨z1, z2⟩
  · exact Or.inl (e10.trans z)
  · exact Or.inr ⟨e10.trans z1, z2.fr hw.1.1.1.1 (fun t j k hf => h0 t j k (by unfold qf_L at hf; omega) (by unfold qf_L at hf; omega))⟩
def op_append (F : qg_F) (c : Int) : Int × qg_F := if 1 ≤ c ∧ c ≤ 255 then (if F.2.2.length < 140 then ((F.2.2.length : Int) + 1, (F.1, F.2.1, F.2.2 ++ [c.toNat])) else (-3, F)) else (-1, F)
theorem wf_append {F : qg_F} (hw : qg_wF F) (c : Int) : qg_wF (op_append F c).2 := by
  unfold op_append
  split
  · split
    · refine ⟨hw.1, hw.2.1, hw.2.2.1, by simp; omega, fun s hs => ?_⟩
      rcases List.mem_append.mp hs with z | z
      · exact hw.2.2.2.2 s z
      · rw [List.mem_singleton.mp z]; omega
    · exact hw
  · exact hw
def op_clearText (F : qg_F) : Int × qg_F := ((F.2.2.length : Int), (F.1, F.2.1, []))
theorem wf_clearText {F : qg_F} (hw : qg_wF F) : qg_wF (op_clearText F).2 := ⟨hw.1, hw.2.1, hw.2.2.1, Nat.zero_le _, fun s hs => by cases hs⟩
