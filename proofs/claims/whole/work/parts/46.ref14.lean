/-! The reference: looking. -/
theorem rq_O.v {f : Nat → Int} {k : Nat} {o : Option qg_C} (h : rq_O f k o) : f (135 + 136 * k) = ((if o.isSome then 1 else 0 : Nat) : Int) := by
  cases o with
  | none => exact h
  | some C => exact h.1
theorem qg_oi_ati (ls : List Nat) (l : Nat) : qg_oi (qg_ati ls (l : Int)) = qg_oi (ls[l]?) := by
  unfold qg_ati
  rw [if_pos (by omega), Int.toNat_natCast]
set_option maxRecDepth 100000 in
theorem sp_X11_count {F : qg_F} {w : Int} {M : mv_M} {Q : mv_R} (hZ : rr_Z M F) (hw : qg_wF F) (h : ∀ M', rr_Z M' F → rr_of rf_X M M' → Q (some (.inl (an_count F w))) M') : E_X11_count [.inr (11, 0), .inl w] M Q := by
  refine ev_X11_count ?_
  refine go_X11_count [] 60 ?_
  have hZ0 := hZ.R hw rr_th
  have hO0 := (rr_th (M := M)).wk (fun t k => rf_R_X)
  have hC := hw.1.1.1
  refine sp_X11_layOut hZ0.1.1 hC hw.1.2.1 (fun M1 hL1 hO1 => ?_)
  have hZ1 := hZ0.R hw (hO1.wk (fun t k => rf_lay_R))
  have h0 := h M1 hZ1 (hO0.tr (hO1.wk (fun t k z => rf_R_X (rf_lay_R z))))
  have hC1 : rq_C (M1.1 24 0) F.1.1 := hZ1.1.1
  refine And.intro (fun c => ?_) (And.intro (fun c => ?_) (And.intro (fun c => ?_) (And.intro (fun c => ?_) (And.intro (fun c => ?_) (And.intro (fun c => ?_) (And.intro (fun c => ?_) (And.intro (fun c => ?_) (And.intro (fun c => ?_) (And.intro (fun c => ?_) (And.intro (fun c => ?_) (And.intro (fun c => ?_) (And.intro (fun c => ?_) (And.intro (fun c => ?_) trivial)))))))))))))
  · have c : w < 0 ∨ 13 ≤ w := c
    have e : an_count F w = -1 := by
      unfold an_count
      rw [if_neg (by omega), if_neg (by omega), if_neg (by omega), if_neg (by omega), if_neg (by omega), if_neg (by omega), if_neg (by omega), if_neg (by omega), if_neg (by omega), if_neg (by omega), if_neg (by omega), if_neg (by omega), if_neg (by omega)]
    rw [e] at h0
    exact h0
  · have c : w = 0 := by omega
    subst c
    have e : an_count F 0 = M1.1 24 0 (0 : Int).toNat := hC1.n0.symm
    rw [e] at h0
    exact And.intro (by decide) h0
  · have c : w = 1 := by omega
    subst c
    have e : an_count F 1 = M1.1 24 0 (1 : Int).toNat := hC1.n1.symm
    rw [e] at h0
    exact And.intro (by decide) h0
  · have c : w = 2 := by omega
    subst c
    exact sp_X11_placedMany hC1 hC.2.1 h0
  · have c : w = 3 := by omega
    subst c
    have e : an_count F 3 = M1.1 24 0 (2 : Int).toNat := hC1.n2.symm
    rw [e] at h0
    exact And.intro (by decide) (And.intro (by decide) (And.intro (by decide) h0))
  · have c : w = 4 := by omega
    subst c
    have e : an_count F 4 = M1.1 24 0 (3 : Int).toNat := hC1.n3.symm
    rw [e] at h0
    exact And.intro (by decide) (And.intro (by decide) (And.intro (by decide) h0))
  · have c : w = 5 := by omega
    subst c
    have e : an_count F 5 = M1.1 24 0 (4 : Int).toNat := hC1.n4.symm
    rw [e] at h0
    exact And.intro (by decide) (And.intro (by decide) (And.intro (by decide) h0))
  · have c : w = 6 := by omega
    subst c
    refine sp_X11_sum30 hC1 hC.1 (fun i hi => hL1.ov hi) (fun i hi => ?_) h0
    have := qg_lay_ok hC hi
    unfold qg_ov
    omega
  · have c : w = 7 := by omega
    subst c
    refine sp_X11_sum31 hC1 hC.1 (fun i hi => (hL1.at hi).2.2.1) (fun i hi => ?_) h0
    have := qg_lay_ok hC hi
    omega
  · have c : w = 8 := by omega
    subst c
    refine sp_X11_takenMany (a := 0) (n := 360) (lo := 1) (hi := 99) rfl rfl rfl rfl hL1.1 (by omega) ?_
    rw [rq_cnt_all (qg_lay_28 hC)]
    exact h0
  · have c : w = 9 := by omega
    subst c
    exact sp_X11_unrest hC1 hC.2.1 (fun x hx => (hC.2.2.2.1 x hx).1) h0
  · have c : w = 10 := by omega
    subst c
    have s0 : M1.1 24 0 (135 : Int).toNat = ((if F.1.2.1.isSome then 1 else 0 : Nat) : Int) := (hZ1.1.2 0 (by decide)).v
    have s1 : M1.1 24 0 (271 : Int).toNat = ((if F.1.2.2.isSome then 1 else 0 : Nat) : Int) := (hZ1.1.2 1 (by decide)).v
    have e : an_count F 10 = M1.1 24 0 (135 : Int).toNat + M1.1 24 0 (271 : Int).toNat := by
      rw [s0, s1]
      show ((qg_snaps F.1 : Nat) : Int) = _
      unfold qg_snaps
      omega
    have e2 : an_count F 10 ≤ 2 ∧ 0 ≤ an_count F 10 := by
      show ((qg_snaps F.1 : Nat) : Int) ≤ 2 ∧ 0 ≤ ((qg_snaps F.1 : Nat) : Int)
      unfold qg_snaps
      constructor
      · split <;> split <;> decide
      · omega
    have h0' := h0
    rw [e] at h0'
    exact And.intro (by decide) (And.intro (by decide) (And.intro (by omega) h0'))
  · have c : w = 11 := by omega
    subst c
    have e : an_count F 11 = M1.1 11 0 4 := hZ1.2.1.1.symm
    rw [e] at h0
    exact h0
  · have c : w = 12 := by omega
    subst c
    have e : an_count F 12 = M1.1 11 0 6 := hZ1.2.2.1.symm
    rw [e] at h0
    exact h0
set_option maxRecDepth 100000 in
theorem sp_X11_article {F : qg_F} {a w : Int} {M : mv_M} {Q : mv_R} (hZ : rr_Z M F) (hw : qg_wF F) (h : ∀ M', rr_Z M' F → rr_of rf_X M M' → Q (some (.inl (an_article F a w))) M') : E_X11_article [.inr (11, 0), .inl a, .inl w] M Q := by
  refine ev_X11_article ?_
  refine go_X11_article [23] 60 ?_
  have hZ0 := hZ.R hw rr_th
  have hO0 := (rr_th (M := M)).wk (fun t k => rf_R_X)
  obtain ⟨M0, hM0⟩ : ∃ M0 : mv_M, M0 = (mv_up M.1 11 0 0 0, M.2) := ⟨_, rfl⟩
  rw [← hM0] at hZ0 hO0
  show E_X11_isArticle [.inr (11, 0), .inl a] (mv_up M.1 11 0 0 0, M.2) _
  rw [← hM0]
  have hC := hw.1.1.1
  have h6 := hC.1
  have bad : an_article F a w = -1 → J_X11_article Q 23 [some (.inr (11, 0)), some (.inl a), some (.inl w), none] [] M0 := by
    intro hc
    rw [hc] at h
    refine go_X11_article [] 60 ?_
    exact h M0 hZ0 hO0
  refine sp_X11_isArticle hZ0.1.1 h6 (fun c1 => mv_t ?_) (fun c1 => mv_f (bad (by unfold an_article; rw [qg_art_none c1])))
  obtain ⟨n, A, rfl, hn, hA, ha⟩ := qg_art_some c1
  have en : (n : Int).toNat = n := by omega
  have ea : an_article F (n : Int) w = if w = 0 then (A.1 : Int) else if w = 1 then (A.2.1 : Int) else if w = 2 then (A.2.2.length : Int) else if w = 3 then (qg_ov F.1.1 n : Int) else if w = 4 then (qg_ju F.1.1 n : Int)
    else if w = 5 then qg_oi (qg_ati (qg_ls F.1.1 n) 0) else if w = 6 then qg_oi (qg_ati (qg_ls F.1.1 n) (((qg_ls F.1.1 n).length : Int) - 1)) else -1 := by
    unfold an_article; rw [ha, en]
  rw [ea] at h bad
  refine sp_X11_in (fun c2 => mv_nt ?_) (fun c2 => mv_nf (bad (by rw [if_neg (by omega), if_neg (by omega), if_neg (by omega), if_neg (by omega), if_neg (by omega), if_neg (by omega), if_neg (by omega)])))
  refine sp_X11_layOut hZ0.1.1 hC hw.1.2.1 (fun M1 hL1 hO1 => ?_)
  have hZ1 := hZ0.R hw (hO1.wk (fun t k => rf_lay_R))
  have h0 := h M1 hZ1 (hO0.tr (hO1.wk (fun t k z => rf_R_X (rf_lay_R z))))
  have hC1 : rq_C (M1.1 24 0) F.1.1 := hZ1.1.1
  have hr := hC1.2.2.1 n A hA
  have hF := hL1.at hn
  have hok := qg_lay_ok hC hn
  have e200 := hok.2.2.2
  rw [qg_len_at hA] at hF hok e200
  have h1 := hok.2.1
  have eov : M1.1 30 0 (n : Int).toNat = (A.2.1 : Int) - ((qg_ls F.1.1 n).length : Int) := by rw [en]; exact hF.2.1
  have eju : M1.1 31 0 (n : Int).toNat = (qg_ju F.1.1 n : Int) := by rw [en]; exact hF.2.2.1
  refine sp_X11_of (p := 1) rfl rfl (by omega) hr.2.1 ?_
  refine And.intro (by omega) ?_
  rw [eov]
  have el : (A.2.1 : Int) - ((A.2.1 : Int) - ((qg_ls F.1.1 n).length : Int)) = ((qg_ls F.1.1 n).length : Int) := by omega
  refine And.intro (by omega) ?_
  rw [el]
  refine And.intro (fun c => ?_) (And.intro (fun c => ?_) (And.intro (fun c => ?_) (And.intro (fun c => ?_) (And.intro (fun c => ?_) trivial))))
  · have c : w < 3 ∨ 7 ≤ w := c
    rcases (show w = 0 ∨ w = 1 ∨ w = 2 by omega) with e | e | e
    · subst e
      exact sp_X11_of (p := 0) rfl rfl (by omega) hr.1 h0
    · subst e
      exact sp_X11_of (p := 1) rfl rfl (by omega) hr.2.1 h0
    · subst e
      exact sp_X11_of (p := 2) rfl rfl (by omega) hr.2.2.1 h0
  · have c : w = 3 := by omega
    subst c
    have e : M1.1 30 0 (n : Int).toNat = (qg_ov F.1.1 n : Int) := by rw [en]; exact hL1.ov hn
    have h0 : Q (some (.inl (qg_ov F.1.1 n : Int))) M1 := h0
    rw [← e] at h0
    exact And.intro (by omega) h0
  · have c : w = 4 := by omega
    subst c
    have h0 : Q (some (.inl (qg_ju F.1.1 n : Int))) M1 := h0
    rw [← eju] at h0
    exact And.intro (by omega) h0
  · have c : w = 5 := by omega
    subst c
    have h0 : Q (some (.inl (qg_oi (qg_ati (qg_ls F.1.1 n) ((0 : Nat) : Int))))) M1 := h0
    rw [qg_oi_ati] at h0
    refine And.intro (fun c3 => ?_) (fun c3 => ?_)
    · have hpos : 0 < (qg_ls F.1.1 n).length := by omega
      have hv := hF.line (l := 0) (by omega)
      have ei : 200 * n + 0 = (200 * (n : Int)).toNat := by omega
      rw [ei] at hv
      have hv : M1.1 29 0 (200 * (n : Int)).toNat = qg_oi ((qg_ls F.1.1 n)[0]?) := hv
      rw [← hv] at h0
      exact And.intro (by omega) (And.intro (by omega) h0)
    · rw [List.getElem?_eq_none (by omega)] at h0
      exact h0
  · have c : w = 6 := by omega
    subst c
    have h0 : Q (some (.inl (qg_oi (qg_ati (qg_ls F.1.1 n) (((qg_ls F.1.1 n).length : Int) - 1))))) M1 := h0
    refine And.intro (fun c3 => ?_) (fun c3 => ?_)
    · obtain ⟨m, hm⟩ : ∃ m, (qg_ls F.1.1 n).length = m + 1 := ⟨(qg_ls F.1.1 n).length - 1, by omega⟩
      have hv := hF.line (l := m) (by omega)
      have e1 : ((qg_ls F.1.1 n).length : Int) - 1 = (m : Int) := by omega
      rw [e1, qg_oi_ati] at h0
      have ei : 200 * n + m = (200 * (n : Int) + ((qg_ls F.1.1 n).length : Int) - 1).toNat := by omega
      rw [ei] at hv
      have hv : M1.1 29 0 (200 * (n : Int) + ((qg_ls F.1.1 n).length : Int) - 1).toNat = qg_oi ((qg_ls F.1.1 n)[m]?) := hv
      rw [← hv] at h0
      exact And.intro (by omega) (And.intro (by omega) (And.intro (by omega) (And.intro (by omega) h0)))
    · have e1 : ¬ 0 ≤ ((qg_ls F.1.1 n).length : Int) - 1 := by omega
      unfold qg_ati at h0
      rw [if_neg e1] at h0
      exact h0
set_option maxRecDepth 100000 in
theorem sp_X11_lineAt {F : qg_F} {a l : Int} {M : mv_M} {Q : mv_R} (hZ : rr_Z M F) (hw : qg_wF F) (h : ∀ M', rr_Z M' F → rr_of rf_X M M' → Q (some (.inl (an_lineAt F a l))) M') : E_X11_lineAt [.inr (11, 0), .inl a, .inl l] M Q := by
  refine ev_X11_lineAt ?_
  refine go_X11_lineAt [29] 60 ?_
  have hZ0 := hZ.R hw rr_th
  have hO0 := (rr_th (M := M)).wk (fun t k => rf_R_X)
  obtain ⟨M0, hM0⟩ : ∃ M0 : mv_M, M0 = (mv_up M.1 11 0 0 0, M.2) := ⟨_, rfl⟩
  rw [← hM0] at hZ0 hO0
  show E_X11_isArticle [.inr (11, 0), .inl a] (mv_up M.1 11 0 0 0, M.2) _
  rw [← hM0]
  have hC := hw.1.1.1
  have h6 := hC.1
  have bad : an_lineAt F a l = -1 → J_X11_lineAt Q 29 [some (.inr (11, 0)), some (.inl a), some (.inl l)] [] M0 := by
    intro hc
    rw [hc] at h
    refine go_X11_lineAt [] 60 ?_
    exact h M0 hZ0 hO0
  refine sp_X11_isArticle hZ0.1.1 h6 (fun c1 => mv_t ?_) (fun c1 => mv_f (bad (by unfold an_lineAt; rw [qg_art_none c1])))
  obtain ⟨n, A, rfl, hn, hA, ha⟩ := qg_art_some c1
  have en : (n : Int).toNat = n := by omega
  have ea : an_lineAt F (n : Int) l = if 0 ≤ l ∧ l < (A.2.1 : Int) then qg_oi (qg_ati (qg_ls F.1.1 n) l) else -1 := by
    unfold an_lineAt; rw [ha, en]
  rw [ea] at h bad
  have hwA := hC.2.2.1 A (List.mem_of_getElem? hA)
  have h200 := hwA.2.2.1
  refine sp_X11_of (p := 1) rfl rfl (by omega) (hZ0.1.1.2.2.1 n A hA).2.1 ?_
  refine And.intro (by omega) ?_
  refine sp_X11_in (fun c2 => mv_nt ?_) (fun c2 => mv_nf (bad (by rw [if_neg (by omega)])))
  rw [if_pos (by omega)] at h
  obtain ⟨m, rfl⟩ := Int.eq_ofNat_of_zero_le c2.1
  rw [qg_oi_ati] at h
  refine sp_X11_layOut hZ0.1.1 hC hw.1.2.1 (fun M1 hL1 hO1 => ?_)
  have h0 := h M1 (hZ0.R hw (hO1.wk (fun t k => rf_lay_R))) (hO0.tr (hO1.wk (fun t k z => rf_R_X (rf_lay_R z))))
  have hF := hL1.at hn
  rw [qg_len_at hA] at hF
  have hv := hF.line (l := m) (by omega)
  have ei : 200 * n + m = (200 * (n : Int) + (m : Int)).toNat := by omega
  rw [ei] at hv
  have hv : M1.1 29 0 (200 * (n : Int) + (m : Int)).toNat = qg_oi ((qg_ls F.1.1 n)[m]?) := hv
  rw [← hv] at h0
  exact And.intro (by omega) (And.intro (by omega) (And.intro (by omega) h0))
set_option maxRecDepth 100000 in
theorem sp_X11_sentence {F : qg_F} {a s w : Int} {M : mv_M} {Q : mv_R} (hZ : rr_Z M F) (hw : qg_wF F) (h : ∀ M', rr_Z M' F → rr_of rf_X M M' → Q (some (.inl (an_sentence F a s w))) M') : E_X11_sentence [.inr (11, 0), .inl a, .inl s, .inl w] M Q := by
  refine ev_X11_sentence ?_
  refine go_X11_sentence [23] 60 ?_
  have hZ0 := hZ.R hw rr_th
  have hO0 := (rr_th (M := M)).wk (fun t k => rf_R_X)
  obtain ⟨M0, hM0⟩ : ∃ M0 : mv_M, M0 = (mv_up M.1 11 0 0 0, M.2) := ⟨_, rfl⟩
  rw [← hM0] at hZ0 hO0
  show E_X11_isSentence [.inr (11, 0), .inl a, .inl s] (mv_up M.1 11 0 0 0, M.2) _
  rw [← hM0]
  have hC := hw.1.1.1
  have h6 := hC.1
  have bad : an_sentence F a s w = -1 → J_X11_sentence Q 23 [some (.inr (11, 0)), some (.inl a), some (.inl s), some (.inl w), none] [] M0 := by
    intro hc
    rw [hc] at h
    refine go_X11_sentence [] 60 ?_
    exact h M0 hZ0 hO0
  refine sp_X11_isSentence hZ0.1.1 hC (fun c1 => mv_t ?_) (fun c1 => mv_f (bad ?_))
  · obtain ⟨A, ha, hs1, hs2⟩ := c1
    obtain ⟨n, rfl, hn, hA⟩ := qg_art_nat ha
    obtain ⟨k, rfl⟩ := Int.eq_ofNat_of_zero_le hs1
    have en : (n : Int).toNat = n := by omega
    have ek : (k : Int).toNat = k := by omega
    obtain ⟨l, hl⟩ := qg_some (show k < A.2.2.length by omega)
    have ea : an_sentence F (n : Int) (k : Int) w = if w = 0 then (l : Int) else if w = 1 then qg_oi (qg_ati (qg_ls F.1.1 n) (l : Int)) else -1 := by
      unfold an_sentence
      rw [ha, en, ek]
      dsimp only
      rw [hl]
      dsimp only
      rw [if_pos (by omega)]
    rw [ea] at h bad
    have hwA := hC.2.2.1 A (List.mem_of_getElem? hA)
    have h200 := hwA.2.2.1
    have h8 := hwA.2.2.2.1
    have hll := hwA.2.2.2.2 l (List.mem_of_getElem? hl)
    refine sp_X11_in (fun c2 => mv_nt ?_) (fun c2 => mv_nf (bad (by rw [if_neg (by omega), if_neg (by omega)])))
    refine sp_X11_layOut hZ0.1.1 hC hw.1.2.1 (fun M1 hL1 hO1 => ?_)
    have hZ1 := hZ0.R hw (hO1.wk (fun t k => rf_lay_R))
    have h0 := h M1 hZ1 (hO0.tr (hO1.wk (fun t k z => rf_R_X (rf_lay_R z))))
    have hC1 : rq_C (M1.1 24 0) F.1.1 := hZ1.1.1
    refine And.intro (by omega) ?_
    refine sp_X11_of (a := n) (p := 3 + k) rfl (by omega) (by omega) ((hC1.2.2.1 n A hA).2.2.2 k l hl) ?_
    refine And.intro (fun c3 => ?_) (fun c3 => ?_)
    · rw [if_neg c3, if_pos (by omega), qg_oi_ati] at h0
      have hF := hL1.at hn
      rw [qg_len_at hA] at hF
      have hv := hF.line (l := l) (by omega)
      have ei : 200 * n + l = (200 * (n : Int) + (l : Int)).toNat := by omega
      rw [ei] at hv
      have hv : M1.1 29 0 (200 * (n : Int) + (l : Int)).toNat = qg_oi ((qg_ls F.1.1 n)[l]?) := hv
      rw [← hv] at h0
      exact And.intro (by omega) (And.intro (by omega) (And.intro (by omega) h0))
    · rw [if_pos c3] at h0
      exact h0
  · unfold an_sentence
    cases ha : qg_art F.1.1 a with
    | none => rfl
    | some A =>
      dsimp only
      cases hl : A.2.2[s.toNat]? with
      | none => rfl
      | some l =>
        dsimp only
        have hlt := (List.getElem?_eq_some_iff.mp hl).1
        rw [if_neg (fun z => c1 ⟨A, ha, z, by omega⟩)]
set_option maxRecDepth 100000 in
theorem sp_X11_quote {F : qg_F} {q w : Int} {M : mv_M} {Q : mv_R} (hZ : rr_Z M F) (hw : qg_wF F) (h : ∀ M', rr_Z M' F → rr_of rf_X M M' → Q (some (.inl (an_quote F q w))) M') : E_X11_quote [.inr (11, 0), .inl q, .inl w] M Q := by
  refine ev_X11_quote ?_
  refine go_X11_quote [23] 60 ?_
  have hZ0 := hZ.R hw rr_th
  have hO0 := (rr_th (M := M)).wk (fun t k => rf_R_X)
  obtain ⟨M0, hM0⟩ : ∃ M0 : mv_M, M0 = (mv_up M.1 11 0 0 0, M.2) := ⟨_, rfl⟩
  rw [← hM0] at hZ0 hO0
  show E_X11_isQuote [.inr (11, 0), .inl q] (mv_up M.1 11 0 0 0, M.2) _
  rw [← hM0]
  have hC := hw.1.1.1
  have h8 := hC.2.1
  have bad : an_quote F q w = -1 → J_X11_quote Q 23 [some (.inr (11, 0)), some (.inl q), some (.inl w)] [] M0 := by
    intro hc
    rw [hc] at h
    refine go_X11_quote [] 60 ?_
    exact h M0 hZ0 hO0
  refine sp_X11_isQuote hZ0.1.1 h8 (fun c1 => mv_t ?_) (fun c1 => mv_f (bad (by unfold an_quote; rw [qg_quo_none c1])))
  obtain ⟨n, r, rfl, hn, hr, ha⟩ := qg_quo_some c1
  have ea : an_quote F (n : Int) w = if w = 0 then (r.1 : Int) else if w = 1 then (r.2.1 : Int) else if w = 2 then (r.2.2.1 : Int) else if w = 3 then (r.2.2.2.1 : Int)
    else if w = 4 then qg_oi (r.2.2.2.2.map (fun p => p.1)) else if w = 5 then qg_oi (r.2.2.2.2.map (fun p => p.2.1)) else if w = 6 then qg_oi (r.2.2.2.2.map (fun p => p.2.2)) else if w = 7 then qg_oi (qg_dist F.1.1 r) else -1 := by
    unfold an_quote; rw [ha]
  rw [ea] at h bad
  have hq := hZ0.1.1.2.2.2.1 n r hr
  refine sp_X11_in (fun c2 => mv_nt ?_) (fun c2 => mv_nf (bad (by rw [if_neg (by omega), if_neg (by omega), if_neg (by omega), if_neg (by omega), if_neg (by omega), if_neg (by omega), if_neg (by omega), if_neg (by omega)])))
  refine And.intro (fun c3 => ?_) (fun c3 => ?_)
  · refine sp_X11_isPlaced rfl (by omega) hq (fun p hp => mv_nt ?_) (fun hp => mv_nf ?_)
    · refine sp_X11_layOut hZ0.1.1 hC hw.1.2.1 (fun M1 hL1 hO1 => ?_)
      have hZ1 := hZ0.R hw (hO1.wk (fun t k => rf_lay_R))
      have h0 := h M1 hZ1 (hO0.tr (hO1.wk (fun t k z => rf_R_X (rf_lay_R z))))
      have hC1 : rq_C (M1.1 24 0) F.1.1 := hZ1.1.1
      have hP := (hC1.2.2.2.1 n r hr).2.2.2.2
      rw [hp] at h0 hP
      refine And.intro (fun c4 => ?_) (fun c4 => ?_)
      · refine And.intro (by omega) ?_
        rcases (show w = 4 ∨ w = 5 ∨ w = 6 by omega) with e | e | e
        · subst e
          exact sp_X11_ofQuote (p := 5) rfl rfl (by omega) hP.2.1 h0
        · subst e
          exact sp_X11_ofQuote (p := 6) rfl rfl (by omega) hP.2.2.1 h0
        · subst e
          exact sp_X11_ofQuote (p := 7) rfl rfl (by omega) hP.2.2.2 h0
      · have c4 : w = 7 := c4
        subst c4
        exact sp_X11_fromSentence rfl hC1 hC hL1 hr hp h0
    · have h0 := h M0 hZ0 hO0
      rw [hp] at h0
      rcases (show w = 4 ∨ w = 5 ∨ w = 6 ∨ w = 7 by omega) with e | e | e | e
      · subst e; exact h0
      · subst e; exact h0
      · subst e; exact h0
      · subst e
        have e2 : qg_dist F.1.1 r = none := by unfold qg_dist; rw [hp]; rfl
        rw [e2] at h0
        exact h0
  · have h0 := h M0 hZ0 hO0
    rcases (show w = 0 ∨ w = 1 ∨ w = 2 ∨ w = 3 by omega) with e | e | e | e
    · subst e; exact sp_X11_ofQuote (p := 0) rfl rfl (by omega) hq.1 h0
    · subst e; exact sp_X11_ofQuote (p := 1) rfl rfl (by omega) hq.2.1 h0
    · subst e; exact sp_X11_ofQuote (p := 2) rfl rfl (by omega) hq.2.2.1 h0
    · subst e; exact sp_X11_ofQuote (p := 3) rfl rfl (by omega) hq.2.2.2.1 h0
set_option maxRecDepth 100000 in
theorem sp_X11_module {F : qg_F} {m : Int} {M : mv_M} {Q : mv_R} (hZ : rr_Z M F) (hw : qg_wF F) (h : ∀ M', rr_Z M' F → rr_of rf_X M M' → Q (some (.inl (an_module F m))) M') : E_X11_module [.inr (11, 0), .inl m] M Q := by
  refine ev_X11_module ?_
  refine go_X11_module [] 60 ?_
  have hZ0 := hZ.R hw rr_th
  have hO0 := (rr_th (M := M)).wk (fun t k => rf_R_X)
  obtain ⟨M0, hM0⟩ : ∃ M0 : mv_M, M0 = (mv_up M.1 11 0 0 0, M.2) := ⟨_, rfl⟩
  rw [← hM0] at hZ0 hO0
  show E_X11_in [.inl m, .inl 0, .inl 359] (mv_up M.1 11 0 0 0, M.2) _
  rw [← hM0]
  unfold an_module at h
  refine sp_X11_in (fun c1 => mv_nt ?_) (fun c1 => mv_nf ?_)
  · rw [if_pos c1] at h
    refine sp_X11_layOut hZ0.1.1 hw.1.1.1 hw.1.2.1 (fun M1 hL1 hO1 => ?_)
    have h0 := h M1 (hZ0.R hw (hO1.wk (fun t k => rf_lay_R))) (hO0.tr (hO1.wk (fun t k z => rf_R_X (rf_lay_R z))))
    rw [← hL1.1 m.toNat (by omega)] at h0
    exact And.intro (by omega) h0
  · rw [if_neg c1] at h
    exact h M0 hZ0 hO0
set_option maxRecDepth 100000 in
theorem sp_X11_page {F : qg_F} {p w : Int} {M : mv_M} {Q : mv_R} (hZ : rr_Z M F) (hw : qg_wF F) (h : ∀ M', rr_Z M' F → rr_of rf_X M M' → Q (some (.inl (an_page F p w))) M') : E_X11_page [.inr (11, 0), .inl p, .inl w] M Q := by
  refine ev_X11_page ?_
  refine go_X11_page [23] 60 ?_
  have hZ0 := hZ.R hw rr_th
  have hO0 := (rr_th (M := M)).wk (fun t k => rf_R_X)
  obtain ⟨M0, hM0⟩ : ∃ M0 : mv_M, M0 = (mv_up M.1 11 0 0 0, M.2) := ⟨_, rfl⟩
  rw [← hM0] at hZ0 hO0
  show E_X11_in [.inl p, .inl 0, .inl 2] (mv_up M.1 11 0 0 0, M.2) _
  rw [← hM0]
  have hC := hw.1.1.1
  have bad : an_page F p w = -1 → J_X11_page Q 23 [some (.inr (11, 0)), some (.inl p), some (.inl w), none] [] M0 := by
    intro hc
    rw [hc] at h
    refine go_X11_page [] 60 ?_
    exact h M0 hZ0 hO0
  unfold an_page at h bad
  refine sp_X11_in (fun c1 => mv_t ?_) (fun c1 => mv_f (bad (by rw [if_neg c1])))
  rw [if_pos c1] at h bad
  refine sp_X11_in (fun c2 => mv_nt ?_) (fun c2 => mv_nf (bad (by rw [if_neg (by omega), if_neg (by omega), if_neg (by omega)])))
  obtain ⟨n, rfl⟩ := Int.eq_ofNat_of_zero_le c1.1
  rw [show (n : Int).toNat = n by omega] at h
  refine sp_X11_layOut hZ0.1.1 hC hw.1.2.1 (fun M1 hL1 hO1 => ?_)
  have hZ1 := hZ0.R hw (hO1.wk (fun t k => rf_lay_R))
  have h0 := h M1 hZ1 (hO0.tr (hO1.wk (fun t k z => rf_R_X (rf_lay_R z))))
  have hC1 : rq_C (M1.1 24 0) F.1.1 := hZ1.1.1
  have hc20 := rq_cnt_20 (qg_lay F.1.1).1 (120 * n) 120
  refine And.intro (by omega) ?_
  refine And.intro (fun c3 => ?_) (fun c3 => ?_)
  · refine And.intro (fun c4 => ?_) (fun c4 => ?_)
    · refine And.intro (by omega) ?_
      rw [if_neg (by omega), if_neg (by omega), if_pos (by omega)] at h0
      refine sp_X11_takenMany (a := 120 * n) (n := 120) (lo := 1) (hi := 20) (by omega) (by omega) rfl rfl hL1.1 (by omega) ?_
      rw [show (rq_cnt (qg_lay F.1.1).1 (120 * n) 1 20 120 : Int) = (qg_cnt (qg_lay F.1.1).1 (120 * n) 1 120 : Int) - (qg_cnt (qg_lay F.1.1).1 (120 * n) 21 120 : Int) by omega]
      exact h0
    · have c4 : w = 1 := c4
      refine And.intro (by omega) ?_
      rw [if_neg (by omega), if_pos (by omega)] at h0
      refine sp_X11_takenMany (a := 120 * n) (n := 120) (lo := 21) (hi := 99) (by omega) (by omega) rfl rfl hL1.1 (by omega) ?_
      rw [rq_cnt_all (qg_lay_28 hC)]
      exact h0
  · rw [if_pos c3] at h0
    exact sp_X11_balance rfl hC1 hC.2.1 (fun x hx => (hC.2.2.2.1 x hx).1) h0
set_option maxRecDepth 100000 in
theorem sp_X11_refusal {F : qg_F} {q p c r : Int} {M : mv_M} {Q : mv_R} (hZ : rr_Z M F) (hw : qg_wF F) (h : ∀ M', rr_Z M' F → rr_of rf_X M M' → Q (some (.inl (an_refusal F q p c r))) M') : E_X11_refusal [.inr (11, 0), .inl q, .inl p, .inl c, .inl r] M Q := by
  refine ev_X11_refusal ?_
  refine go_X11_refusal [35] 60 ?_
  have hZ0 := hZ.R hw rr_th
  have hO0 := (rr_th (M := M)).wk (fun t k => rf_R_X)
  obtain ⟨M0, hM0⟩ : ∃ M0 : mv_M, M0 = (mv_up M.1 11 0 0 0, M.2) := ⟨_, rfl⟩
  rw [← hM0] at hZ0 hO0
  show E_X11_isQuote [.inr (11, 0), .inl q] (mv_up M.1 11 0 0 0, M.2) _
  rw [← hM0]
  have hwC := hw.1.1.1
  have h8 := hwC.2.1
  unfold an_refusal at h
  have bad : ¬ ((0 ≤ q ∧ q < (F.1.1.2.1.length : Int)) ∧ (0 ≤ p ∧ p ≤ 2) ∧ (0 ≤ c ∧ c ≤ 5) ∧ (0 ≤ r ∧ r ≤ 19)) → J_X11_refusal Q 35 [some (.inr (11, 0)), some (.inl q), some (.inl p), some (.inl c), some (.inl r)] [] M0 := by
    intro hc
    rw [if_neg hc] at h
    refine go_X11_refusal [] 60 ?_
    exact h M0 hZ0 hO0
  refine sp_X11_isQuote hZ0.1.1 h8 (fun c1 => mv_t ?_) (fun c1 => mv_f (bad (fun z => c1 z.1)))
  refine sp_X11_isPlace (fun c2 => mv_t ?_) (fun c2 => mv_f (bad (fun z => c2 z.2)))
  rw [if_pos ⟨c1, c2⟩] at h
  obtain ⟨n, x, rfl, hn, hx, ha⟩ := qg_quo_some c1
  obtain ⟨p, rfl⟩ := Int.eq_ofNat_of_zero_le c2.1.1
  obtain ⟨c, rfl⟩ := Int.eq_ofNat_of_zero_le c2.2.1.1
  obtain ⟨r, rfl⟩ := Int.eq_ofNat_of_zero_le c2.2.2.1
  rw [show (n : Int).toNat = n by omega, show (p : Int).toNat = p by omega, show (c : Int).toNat = c by omega, show (r : Int).toNat = r by omega] at h
  have hok : qg_okp (some (p, c, r)) := qg_okp_of (by omega) (by omega) (by omega)
  refine sp_X11_refusalOf (p := (p, c, r)) rfl rfl rfl rfl hZ0.1.1 hwC hw.1.2.1 hx hok (fun M1 hC1 hO1 => ?_)
  exact h M1 (hZ0.wc hw hC1 (hO1.wk (fun t k => rf_try_RC (by omega)))) (hO0.tr (hO1.wk (fun t k z => rf_RC_X (rf_try_RC (by omega) z))))
set_option maxRecDepth 100000 in
theorem sp_X11_bestPlace {F : qg_F} {q w : Int} {M : mv_M} {Q : mv_R} (hZ : rr_Z M F) (hw : qg_wF F) (h : ∀ M', rr_Z M' F → rr_of rf_X M M' → Q (some (.inl (an_bestPlace F q w))) M') : E_X11_bestPlace [.inr (11, 0), .inl q, .inl w] M Q := by
  refine ev_X11_bestPlace ?_
  refine go_X11_bestPlace [22] 60 ?_
  have hZ0 := hZ.R hw rr_th
  have hO0 := (rr_th (M := M)).wk (fun t k => rf_R_X)
  obtain ⟨M0, hM0⟩ : ∃ M0 : mv_M, M0 = (mv_up M.1 11 0 0 0, M.2) := ⟨_, rfl⟩
  rw [← hM0] at hZ0 hO0
  show E_X11_isQuote [.inr (11, 0), .inl q] (mv_up M.1 11 0 0 0, M.2) _
  rw [← hM0]
  have hwC := hw.1.1.1
  have h8 := hwC.2.1
  unfold an_bestPlace at h
  have bad : ¬ ((0 ≤ q ∧ q < (F.1.1.2.1.length : Int)) ∧ 0 ≤ w ∧ w ≤ 1) → J_X11_bestPlace Q 22 [some (.inr (11, 0)), some (.inl q), some (.inl w), none] [] M0 := by
    intro hc
    rw [if_neg hc] at h
    refine go_X11_bestPlace [] 60 ?_
    exact h M0 hZ0 hO0
  refine sp_X11_isQuote hZ0.1.1 h8 (fun c1 => mv_t ?_) (fun c1 => mv_f (bad (fun z => c1 z.1)))
  refine sp_X11_in (fun c2 => mv_nt ?_) (fun c2 => mv_nf (bad (fun z => c2 z.2)))
  rw [if_pos ⟨c1, c2⟩] at h
  obtain ⟨n, x, rfl, hn, hx, ha⟩ := qg_quo_some c1
  rw [show (n : Int).toNat = n by omega] at h
  refine sp_X11_best rfl hZ0.1.1 hwC hw.1.2.1 hx (fun M1 hC1 e16 hO1 => ?_)
  have h0 := h M1 (hZ0.wc hw hC1 (hO1.wk (fun t k => rf_try_RC (by omega)))) (hO0.tr (hO1.wk (fun t k z => rf_RC_X (rf_try_RC (by omega) z))))
  refine And.intro (fun c3 => ?_) (fun c3 => ?_)
  · rw [if_neg c3, ← e16] at h0
    exact h0
  · rw [if_pos c3] at h0
    exact h0
set_option maxRecDepth 100000 in
theorem sp_X11_troubled {F : qg_F} {M : mv_M} {Q : mv_R} (hZ : rr_Z M F) (hw : qg_wF F) (h : ∀ M', rr_Z M' F → rr_of rf_X M M' → Q (some (.inl (an_troubled F))) M') : E_X11_troubled [.inr (11, 0)] M Q := by
  refine ev_X11_troubled ?_
  refine go_X11_troubled [9] 60 ?_
  have hZ0 := hZ.R hw rr_th
  have hO0 := (rr_th (M := M)).wk (fun t k => rf_R_X)
  have hC := hw.1.1.1
  have w8 := hC.2.1
  have hl : ∀ (k : Nat) (M1 : mv_M), k ≤ F.1.1.2.1.length → (rr_Z M1 F ∧ rr_of rf_X M M1) → ∀ (x : Int), x = (qg_trF F.1.1 k : Int) → qg_trF F.1.1 k ≤ k → J_X11_troubled Q 9 [some (.inr (11, 0)), some (.inl x), some (.inl (k : Int))] [] M1 := by
    refine mv_loop F.1.1.2.1.length (fun k M1 hk ih hI x hx hle => ?_)
    subst hx
    obtain ⟨hZ1, hO1⟩ := hI
    have hC1 : rq_C (M1.1 24 0) F.1.1 := hZ1.1.1
    have e1 := hC1.n1
    refine go_X11_troubled [9, 60] 60 ?_
    refine And.intro (by omega) ?_
    refine And.intro (fun c1 => ?_) (fun c1 => ?_)
    · have : k = F.1.1.2.1.length := by omega
      subst this
      exact h M1 hZ1 hO1
    · have hlt : k < F.1.1.2.1.length := by omega
      obtain ⟨q, hq⟩ := qg_some hlt
      have hs := qg_trF_succ F.1.1 k
      rw [hq] at hs
      dsimp only at hs
      have hr := hC1.2.2.2.1 k q hq
      have hP := hr.2.2.2.2
      have no : ∀ M2 : mv_M, rr_Z M2 F → rr_of rf_X M M2 → qg_trF F.1.1 (k + 1) = qg_trF F.1.1 k → J_X11_troubled Q 60 [some (.inr (11, 0)), some (.inl (qg_trF F.1.1 k : Int)), some (.inl (k : Int))] [.inl (qg_trF F.1.1 k : Int)] M2 := by
        intro M2 hZ2 hO2 he
        refine go_X11_troubled [9] 60 ?_
        refine And.intro (by omega) (And.intro (by omega) ?_)
        exact ih M2 hlt ⟨hZ2, hO2⟩ _ (by omega) (by omega)
      refine sp_X11_isPlaced rfl (by omega) hr (fun p hp => mv_t ?_) (fun hp => mv_f ?_)
      · rw [hp] at hs hP
        dsimp only at hs
        have hwq := (hC.2.2.2.1 q (List.mem_of_getElem? hq)).1
        refine sp_X11_ofQuote (p := 5) rfl rfl (by omega) hP.2.1 ?_
        refine sp_X11_ofQuote (p := 6) rfl rfl (by omega) hP.2.2.1 ?_
        refine sp_X11_ofQuote (p := 7) rfl rfl (by omega) hP.2.2.2 ?_
        refine sp_X11_refusalOf (p := p) rfl rfl rfl rfl hC1 hC hw.1.2.1 hq (fun p' hp' => by cases hp'; exact hwq.2.2.2.2 p hp) (fun M2 hC2 hO2 => ?_)
        have hZ2 : rr_Z M2 F := hZ1.wc hw hC2 (hO2.wk (fun t k => rf_try_RC (by omega)))
        have hO2' := hO1.tr (hO2.wk (fun t k z => rf_RC_X (rf_try_RC (by omega) z)))
        refine And.intro (fun c2 => ?_) (fun c2 => ?_)
        · rw [if_pos c2] at hs
          exact no M2 hZ2 hO2' (by omega)
        · rw [if_neg c2] at hs
          refine And.intro (by omega) (And.intro (by omega) ?_)
          exact ih M2 hlt ⟨hZ2, hO2'⟩ _ (by omega) (by omega)
      · rw [hp] at hs
        exact no M1 hZ1 hO1 (by omega)
  exact hl 0 _ (Nat.zero_le _) ⟨hZ0, hO0⟩ _ rfl (Nat.le_refl _)
