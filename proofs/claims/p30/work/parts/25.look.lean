/-! The public methods of the class that change nothing. -/
def an_count (F : qg_F) (w : Int) : Int :=
  if w = 0 then (F.1.1.1.length : Int) else if w = 1 then (F.1.1.2.1.length : Int) else if w = 2 then (qg_placed F.1.1.2.1 : Int) else if w = 3 then (F.1.1.2.2.1 : Int) else if w = 4 then (F.1.1.2.2.2.1 : Int) else if w = 5 then (F.1.1.2.2.2.2 : Int)
  else if w = 6 then (qg_sum (qg_ov F.1.1) F.1.1.1.length : Int) else if w = 7 then (qg_sum (qg_ju F.1.1) F.1.1.1.length : Int) else if w = 8 then (qg_cnt (qg_lay F.1.1).1 0 1 360 : Int) else if w = 9 then qg_unrest F.1.1.2.1 else if w = 10 then (qg_snaps F.1 : Int) else if w = 11 then (F.2.1.length : Int) else if w = 12 then (F.2.2.length : Int) else -1
set_option maxRecDepth 100000 in
theorem sp_X10_count {F : qg_F} {w : Int} {M : mv_M} {Q : mv_R} (hX : qr_X M F) (hw : qg_wF F) (h : ∀ M', qr_X M' F → mv_of1 qf_X M M' → Q (some (.inl (an_count F w))) M') : E_X10_count [.inr (10, 0), .inl w] M Q := by
  refine ev_X10_count ?_
  refine go_X10_count [] 90 ?_
  have hC := hw.1.1.1
  have hCr : qr_C M (3 * 0) F.1.1 := hX.1.1.1
  have h0 := h M hX mv_of1.rf
  refine And.intro (fun c => ?_) (And.intro (fun c => ?_) (And.intro (fun c => ?_) (And.intro (fun c => ?_) (And.intro (fun c => ?_) (And.intro (fun c => ?_) (And.intro (fun c => ?_) (And.intro (fun c => ?_) (And.intro (fun c => ?_) (And.intro (fun c => ?_) (And.intro (fun c => ?_) (And.intro (fun c => ?_) (And.intro (fun c => ?_) (And.intro (fun c => ?_) trivial)))))))))))))
  · have c : w < 0 ∨ 13 ≤ w := c
    have e : an_count F w = -1 := by
      unfold an_count
      rw [if_neg (by omega), if_neg (by omega), if_neg (by omega), if_neg (by omega), if_neg (by omega), if_neg (by omega), if_neg (by omega), if_neg (by omega), if_neg (by omega), if_neg (by omega), if_neg (by omega), if_neg (by omega), if_neg (by omega)]
    rw [e] at h0
    exact h0
  · have c : w = 0 := by omega
    subst c
    have e : an_count F 0 = M.1 1 (3 * 0) 3 := hCr.1.symm
    rw [e] at h0
    exact h0
  · have c : w = 1 := by omega
    subst c
    have e : an_count F 1 = M.1 1 (3 * 0) 4 := hCr.2.1.symm
    rw [e] at h0
    exact h0
  · have c : w = 2 := by omega
    subst c
    exact sp_X1_placedQuotes (c := 3 * 0) hCr hC.2.1 h0
  · have c : w = 3 := by omega
    subst c
    have e : an_count F 3 = M.1 14 (3 * 0) (0 : Int).toNat := hCr.2.2.2.2.1.symm
    rw [e] at h0
    exact And.intro (by decide) h0
  · have c : w = 4 := by omega
    subst c
    have e : an_count F 4 = M.1 14 (3 * 0) (1 : Int).toNat := hCr.2.2.2.2.2.1.symm
    rw [e] at h0
    exact And.intro (by decide) h0
  · have c : w = 5 := by omega
    subst c
    have e : an_count F 5 = M.1 14 (3 * 0) (2 : Int).toNat := hCr.2.2.2.2.2.2.symm
    rw [e] at h0
    exact And.intro (by decide) h0
  · have c : w = 6 := by omega
    subst c
    refine sp_X10_currentLayout hX hw (fun M1 hX1 hL1 hO1 => ?_)
    exact sp_X4_oversetInAll hL1 hC (h M1 hX1 hO1)
  · have c : w = 7 := by omega
    subst c
    refine sp_X10_currentLayout hX hw (fun M1 hX1 hL1 hO1 => ?_)
    exact sp_X4_jumpsInAll hL1 hC (h M1 hX1 hO1)
  · have c : w = 8 := by omega
    subst c
    refine sp_X10_currentLayout hX hw (fun M1 hX1 hL1 hO1 => ?_)
    exact sp_X4_takenBetween (a := 0) (n := 360) (v := 1) rfl rfl rfl hL1 (by omega) (h M1 hX1 hO1)
  · have c : w = 9 := by omega
    subst c
    exact sp_X1_unrest (c := 3 * 0) hCr hC.2.1 (fun x hx => (hC.2.2.2.1 x hx).1) h0
  · have c : w = 10 := by omega
    subst c
    exact sp_X7_snapshotCount hX.1.1 h0
  · have c : w = 11 := by omega
    subst c
    have e : an_count F 11 = M.1 3 0 1 := hX.1.2.1.1.symm
    rw [e] at h0
    exact h0
  · have c : w = 12 := by omega
    subst c
    have e : an_count F 12 = M.1 8 0 1 := hX.1.2.2.1.symm
    rw [e] at h0
    exact h0
def an_article (F : qg_F) (a w : Int) : Int := match qg_art F.1.1 a with
  | none => -1
  | some A => if w = 0 then (A.1 : Int) else if w = 1 then (A.2.1 : Int) else if w = 2 then (A.2.2.length : Int) else if w = 3 then (qg_ov F.1.1 a.toNat : Int) else if w = 4 then (qg_ju F.1.1 a.toNat : Int)
    else if w = 5 then qg_oi (qg_ati (qg_ls F.1.1 a.toNat) 0) else if w = 6 then qg_oi (qg_ati (qg_ls F.1.1 a.toNat) (((qg_ls F.1.1 a.toNat).length : Int) - 1)) else -1
set_option maxRecDepth 100000 in
theorem sp_X10_article {F : qg_F} {a w : Int} {M : mv_M} {Q : mv_R} (hX : qr_X M F) (hw : qg_wF F) (h : ∀ M', qr_X M' F → mv_of1 qf_X M M' → Q (some (.inl (an_article F a w))) M') : E_X10_article [.inr (10, 0), .inl a, .inl w] M Q := by
  refine ev_X10_article ?_
  refine go_X10_article [] 90 ?_
  have hC := hw.1.1.1
  have hCr : qr_C M (3 * 0) F.1.1 := hX.1.1.1
  have w6 := hC.1
  unfold an_article at h
  refine sp_X1_hasArticle hCr hC.1 (fun c1 => mv_nt ?_) (fun c1 => mv_nf ?_)
  · obtain ⟨n, A, rfl, hn, hA, ha⟩ := qg_art_some c1
    rw [ha] at h
    dsimp only at h
    refine And.intro (by omega) ?_
    refine sp_X10_currentLayout hX hw (fun M1 hX1 hL1 hO1 => ?_)
    refine And.intro (by omega) ?_
    have h0 := h M1 hX1 hO1
    rw [Int.toNat_natCast] at h0
    have hA1 := hX1.1.1.1.2.2.1 n A hA
    have hF := hL1.at hn
    have hok := qg_lay_ok hC hn
    refine And.intro (fun c => ?_) (And.intro (fun c => ?_) (And.intro (fun c => ?_) (And.intro (fun c => ?_) (And.intro (fun c => ?_) (And.intro (fun c => ?_) (And.intro (fun c => ?_) (And.intro (fun c => ?_) trivial)))))))
    · have c : w < 0 ∨ 7 ≤ w := c
      rw [if_neg (by omega), if_neg (by omega), if_neg (by omega), if_neg (by omega), if_neg (by omega), if_neg (by omega), if_neg (by omega)] at h0
      exact h0
    · have c : w = 0 := by omega
      subst c
      rw [if_pos rfl] at h0
      rw [← hA1.1] at h0
      exact h0
    · have c : w = 1 := by omega
      subst c
      rw [if_neg (by decide), if_pos rfl, ← hA1.2.1] at h0
      exact h0
    · have c : w = 2 := by omega
      subst c
      rw [if_neg (by decide), if_neg (by decide), if_pos rfl, ← hA1.2.2.1] at h0
      exact h0
    · have c : w = 3 := by omega
      subst c
      rw [if_neg (by decide), if_neg (by decide), if_neg (by decide), if_pos rfl] at h0
      have e : (qg_ov F.1.1 n : Int) = M1.1 2 (6 * 2 + n) 3 := (hF.ov hok.2.1).symm
      rw [e] at h0
      exact h0
    · have c : w = 4 := by omega
      subst c
      rw [if_neg (by decide), if_neg (by decide), if_neg (by decide), if_neg (by decide), if_pos rfl] at h0
      have e : (qg_ju F.1.1 n : Int) = M1.1 2 (6 * 2 + n) 4 := hF.2.2.1.symm
      rw [e] at h0
      exact h0
    · have c : w = 5 := by omega
      subst c
      rw [if_neg (by decide), if_neg (by decide), if_neg (by decide), if_neg (by decide), if_neg (by decide), if_pos rfl] at h0
      exact sp_X2_moduleOf (r := (qg_ls F.1.1 n, qg_ju F.1.1 n)) hF (by show (qg_ls F.1.1 n).length ≤ 200; omega) h0
    · have c : w = 6 := by omega
      subst c
      rw [if_neg (by decide), if_neg (by decide), if_neg (by decide), if_neg (by decide), if_neg (by decide), if_neg (by decide), if_pos rfl] at h0
      have e2 : M1.1 2 (6 * 2 + n) 2 = ((qg_ls F.1.1 n).length : Int) := hF.1
      rw [← e2] at h0
      have hl := hok.2.1
      have hl2 := hok.2.2.2
      have e2' : M1.1 2 (6 * 2 + (n : Int).toNat) 2 = ((qg_ls F.1.1 n).length : Int) := e2
      refine And.intro (by omega) ?_
      exact sp_X2_moduleOf (r := (qg_ls F.1.1 n, qg_ju F.1.1 n)) hF (by show (qg_ls F.1.1 n).length ≤ 200; omega) h0
  · rw [qg_art_none c1] at h
    exact h M hX mv_of1.rf
def an_lineAt (F : qg_F) (a l : Int) : Int := match qg_art F.1.1 a with
  | none => -1
  | some A => if 0 ≤ l ∧ l < (A.2.1 : Int) then qg_oi (qg_ati (qg_ls F.1.1 a.toNat) l) else -1
theorem qg_art_nat {C : qg_C} {a : Int} {A : qg_A} (h : qg_art C a = some A) : ∃ n : Nat, a = (n : Int) ∧ n < C.1.length ∧ C.1[n]? = some A := by
  unfold qg_art at h
  split at h
  · rename_i h0
    obtain ⟨n, rfl⟩ := Int.eq_ofNat_of_zero_le h0
    rw [Int.toNat_natCast] at h
    exact ⟨n, rfl, (List.getElem?_eq_some_iff.mp h).1, h⟩
  · cases h
set_option maxRecDepth 100000 in
theorem sp_X10_lineAt {F : qg_F} {a l : Int} {M : mv_M} {Q : mv_R} (hX : qr_X M F) (hw : qg_wF F) (h : ∀ M', qr_X M' F → mv_of1 qf_X M M' → Q (some (.inl (an_lineAt F a l))) M') : E_X10_lineAt [.inr (10, 0), .inl a, .inl l] M Q := by
  refine ev_X10_lineAt ?_
  refine go_X10_lineAt [] 90 ?_
  have hC := hw.1.1.1
  have hCr : qr_C M (3 * 0) F.1.1 := hX.1.1.1
  have w6 := hC.1
  unfold an_lineAt at h
  refine sp_X1_hasLine (c := 3 * 0) hCr hC (fun c1 => mv_nt ?_) (fun c1 => mv_nf ?_)
  · obtain ⟨A, ha, hl⟩ := c1
    rw [ha] at h
    dsimp only at h
    rw [if_pos hl] at h
    obtain ⟨n, rfl, hn, hA⟩ := qg_art_nat ha
    refine sp_X10_currentLayout hX hw (fun M1 hX1 hL1 hO1 => ?_)
    refine And.intro (by omega) ?_
    have hok := qg_lay_ok hC hn
    exact sp_X2_moduleOf (r := (qg_ls F.1.1 n, qg_ju F.1.1 n)) (hL1.at hn) (by show (qg_ls F.1.1 n).length ≤ 200; omega) (h M1 hX1 hO1)
  · cases ha : qg_art F.1.1 a with
    | none => rw [ha] at h; exact h M hX mv_of1.rf
    | some A =>
      rw [ha] at h
      dsimp only at h
      rw [if_neg (fun z => c1 ⟨A, ha, z⟩)] at h
      exact h M hX mv_of1.rf
def an_sentence (F : qg_F) (a s w : Int) : Int := match qg_art F.1.1 a with
  | none => -1
  | some A => match A.2.2[s.toNat]? with
    | none => -1
    | some l => if 0 ≤ s then (if w = 0 then (l : Int) else if w = 1 then qg_oi (qg_ati (qg_ls F.1.1 a.toNat) (l : Int)) else -1) else -1
set_option maxRecDepth 100000 in
theorem sp_X10_sentence {F : qg_F} {a s w : Int} {M : mv_M} {Q : mv_R} (hX : qr_X M F) (hw : qg_wF F) (h : ∀ M', qr_X M' F → mv_of1 qf_X M M' → Q (some (.inl (an_sentence F a s w))) M') : E_X10_sentence [.inr (10, 0), .inl a, .inl s, .inl w] M Q := by
  refine ev_X10_sentence ?_
  refine go_X10_sentence [24] 90 ?_
  have hC := hw.1.1.1
  have hCr : qr_C M (3 * 0) F.1.1 := hX.1.1.1
  have w6 := hC.1
  unfold an_sentence at h
  have bad : ¬ (qg_hasS F.1.1 a s ∧ 0 ≤ w ∧ w ≤ 1) → J_X10_sentence Q 24 [some (.inr (10, 0)), some (.inl a), some (.inl s), some (.inl w), none] [] M := by
    intro hn
    refine go_X10_sentence [] 60 ?_
    cases ha : qg_art F.1.1 a with
    | none => rw [ha] at h; exact h M hX mv_of1.rf
    | some A =>
      rw [ha] at h
      dsimp only at h
      cases hs : A.2.2[s.toNat]? with
      | none => rw [hs] at h; exact h M hX mv_of1.rf
      | some l =>
        rw [hs] at h
        dsimp only at h
        by_cases h0 : 0 ≤ s
        · rw [if_pos h0] at h
          have hlt := (List.getElem?_eq_some_iff.mp hs).1
          have hS : qg_hasS F.1.1 a s := ⟨A, ha, h0, by omega⟩
          have hw2 : ¬ (0 ≤ w ∧ w ≤ 1) := fun z => hn ⟨hS, z⟩
          rw [if_neg (by omega), if_neg (by omega)] at h
          exact h M hX mv_of1.rf
        · rw [if_neg h0] at h
          exact h M hX mv_of1.rf
  refine sp_X1_hasSentence (c := 3 * 0) hCr hC (fun c1 => mv_t ?_) (fun c1 => mv_f (bad (fun z => c1 z.1)))
  refine sp_isWithin (fun c2 => mv_nt ?_) (fun c2 => mv_nf (bad (fun z => c2 z.2)))
  obtain ⟨A, ha, hs⟩ := c1
  rw [ha] at h
  dsimp only at h
  obtain ⟨n, rfl, hn, hA⟩ := qg_art_nat ha
  obtain ⟨k, rfl⟩ := Int.eq_ofNat_of_zero_le hs.1
  obtain ⟨l, hl⟩ := qg_some (show k < A.2.2.length by omega)
  rw [Int.toNat_natCast, Int.toNat_natCast, hl] at h
  dsimp only at h
  rw [if_pos hs.1] at h
  have w8 := (hC.2.2.1 A (List.mem_of_getElem? hA)).2.2.2.1
  refine And.intro (by omega) ?_
  refine And.intro (by omega) ?_
  have el : M.1 15 (6 * (3 * 0) + (n : Int).toNat) (k : Int).toNat = (l : Int) := (hCr.2.2.1 n A hA).2.2.2 k l hl
  refine And.intro (fun c3 => ?_) (fun c3 => ?_)
  · have c3 : w = 1 := by omega
    subst c3
    rw [if_neg (by decide), if_pos rfl] at h
    refine sp_X10_currentLayout hX hw (fun M1 hX1 hL1 hO1 => ?_)
    refine And.intro (by omega) ?_
    have hok := qg_lay_ok hC hn
    rw [el]
    exact sp_X2_moduleOf (r := (qg_ls F.1.1 n, qg_ju F.1.1 n)) (hL1.at hn) (by show (qg_ls F.1.1 n).length ≤ 200; omega) (h M1 hX1 hO1)
  · rw [if_pos c3, ← el] at h
    exact h M hX mv_of1.rf
def an_module (F : qg_F) (m : Int) : Int := if 0 ≤ m ∧ m ≤ 359 then ((qg_lay F.1.1).1 m.toNat : Int) else -1
set_option maxRecDepth 100000 in
theorem sp_X10_module {F : qg_F} {m : Int} {M : mv_M} {Q : mv_R} (hX : qr_X M F) (hw : qg_wF F) (h : ∀ M', qr_X M' F → mv_of1 qf_X M M' → Q (some (.inl (an_module F m))) M') : E_X10_module [.inr (10, 0), .inl m] M Q := by
  refine ev_X10_module ?_
  refine go_X10_module [] 90 ?_
  unfold an_module at h
  refine sp_isModule (fun c1 => mv_nt ?_) (fun c1 => mv_nf ?_)
  · rw [if_pos c1] at h
    refine sp_X10_currentLayout hX hw (fun M1 hX1 hL1 hO1 => ?_)
    refine And.intro (by omega) ?_
    have h0 := h M1 hX1 hO1
    rw [← hL1.2.1 m.toNat (by omega)] at h0
    exact h0
  · rw [if_neg c1] at h
    exact h M hX mv_of1.rf
def an_page (F : qg_F) (p w : Int) : Int := if 0 ≤ p ∧ p ≤ 2 then (if w = 0 then qg_bal F.1.1.2.1 p.toNat else if w = 1 then (qg_cnt (qg_lay F.1.1).1 (120 * p.toNat) 21 120 : Int) else if w = 2 then (qg_cnt (qg_lay F.1.1).1 (120 * p.toNat) 1 120 : Int) - (qg_cnt (qg_lay F.1.1).1 (120 * p.toNat) 21 120 : Int) else -1) else -1
set_option maxRecDepth 100000 in
theorem sp_X10_page {F : qg_F} {p w : Int} {M : mv_M} {Q : mv_R} (hX : qr_X M F) (hw : qg_wF F) (h : ∀ M', qr_X M' F → mv_of1 qf_X M M' → Q (some (.inl (an_page F p w))) M') : E_X10_page [.inr (10, 0), .inl p, .inl w] M Q := by
  refine ev_X10_page ?_
  refine go_X10_page [] 90 ?_
  have hC := hw.1.1.1
  unfold an_page at h
  refine sp_isWithin (fun c1 => mv_nt ?_) (fun c1 => mv_nf ?_)
  · rw [if_pos c1] at h
    obtain ⟨n, rfl⟩ := Int.eq_ofNat_of_zero_le c1.1
    rw [Int.toNat_natCast] at h
    refine And.intro (by omega) ?_
    refine And.intro (by omega) ?_
    refine sp_X10_currentLayout hX hw (fun M1 hX1 hL1 hO1 => ?_)
    refine sp_X4_takenBetween (a := 120 * n) (n := 120) (v := 21) (by omega) (by omega) rfl hL1 (by omega) ?_
    have h0 := h M1 hX1 hO1
    refine And.intro (fun c => ?_) (And.intro (fun c => ?_) (And.intro (fun c => ?_) (And.intro (fun c => ?_) trivial)))
    · have c : w < 0 ∨ 3 ≤ w := c
      rw [if_neg (by omega), if_neg (by omega), if_neg (by omega)] at h0
      exact h0
    · have c : w = 0 := by omega
      subst c
      rw [if_pos rfl] at h0
      exact sp_X1_balanceOf (c := 3 * 0) hX1.1.1.1 hC.2.1 (fun x hx => (hC.2.2.2.1 x hx).1) h0
    · have c : w = 1 := by omega
      subst c
      rw [if_neg (by decide), if_pos rfl] at h0
      exact h0
    · have c : w = 2 := by omega
      subst c
      refine sp_X10_currentLayout hX1 hw (fun M2 hX2 hL2 hO2 => ?_)
      refine sp_X4_takenBetween (a := 120 * n) (n := 120) (v := 1) (by omega) (by omega) rfl hL2 (by omega) ?_
      have b1 := qg_cnt_le (qg_lay F.1.1).1 (120 * n) 1 120
      have b2 := qg_cnt_le (qg_lay F.1.1).1 (120 * n) 21 120
      refine And.intro (by omega) ?_
      have h2 := h M2 hX2 (hO1.tr hO2)
      rw [if_neg (by decide), if_neg (by decide), if_pos rfl] at h2
      exact h2
  · rw [if_neg c1] at h
    exact h M hX mv_of1.rf
