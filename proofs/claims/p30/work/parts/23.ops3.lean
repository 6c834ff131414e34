/-! The public methods of the class: lift, floatAll, setRule, snapshots, undo, text. -/
def op_lift (F : qg_F) (q : Int) : Int × qg_F := match qg_quo F.1.1 q with
  | none => (-1, F)
  | some r => match r.2.2.2.2 with
    | none => (-2, F)
    | some _ => (qg_unrest (qg_put F.1.1 q.toNat none).2.1, qg_wc (qg_act F) (qg_put F.1.1 q.toNat none))
theorem wf_lift {F : qg_F} (hw : qg_wF F) (q : Int) : qg_wF (op_lift F q).2 := by
  unfold op_lift
  split
  · exact hw
  · split
    · exact hw
    · exact qg_wF_wc (qg_wF_act hw) (qg_wC_put hw.1.1.1 _ qg_okp_none) (qg_inC_put hw.1.2.1 (fun x hx => by cases hx))
theorem qr_Q.lift {M : mv_M} {a : Nat} {q : qg_Q} (h : qr_Q M a q) : qr_Q (mv_up M.1 5 a 4 0, M.2) a (qg_mv q none) := by
  refine ⟨?_, ?_, ?_, ?_, ?_⟩
  · simpa [mv_up] using h.1
  · simpa [mv_up] using h.2.1
  · simpa [mv_up] using h.2.2.1
  · simpa [mv_up] using h.2.2.2.1
  · show _ = (0 : Int)
    simp [mv_up]
set_option maxRecDepth 100000 in
theorem sp_X10_lift {F : qg_F} {q : Int} {M : mv_M} {Q : mv_R} (hX : qr_X M F) (hw : qg_wF F) (h : ∀ M', qr_X M' (op_lift F q).2 → mv_of1 qf_X M M' → Q (some (.inl (op_lift F q).1)) M') : E_X10_lift [.inr (10, 0), .inl q] M Q := by
  refine ev_X10_lift ?_
  refine go_X10_lift [] 90 ?_
  unfold op_lift at h
  have hC := hw.1.1.1
  have w8 := hC.2.1
  refine sp_X1_hasQuote (c := 3 * 0) hX.1.1.1 hC.2.1 (fun c1 => mv_nt ?_) (fun c1 => mv_nf ?_)
  · obtain ⟨n, qq, rfl, hn, hq, hqq⟩ := qg_quo_some c1
    rw [hqq] at h
    dsimp only at h
    have hqr := hX.1.1.1.2.2.2.1 n qq hq
    have hP := hqr.2.2.2.2
    refine And.intro (by omega) ?_
    cases ho : qq.2.2.2.2 with
    | none =>
      rw [ho] at h hP
      have hP : M.1 5 (8 * (3 * 0) + (n : Int).toNat) 4 = 0 := hP
      refine And.intro (fun c2 => absurd hP c2) (fun _ => ?_)
      exact h M hX mv_of1.rf
    | some pp =>
      rw [ho] at h hP
      have hP1 : M.1 5 (8 * (3 * 0) + (n : Int).toNat) 4 = 1 := hP.1
      refine And.intro (fun _ => ?_) (fun c2 => absurd c2 (by omega))
      refine sp_X10_beginAction hX.1 hw (fun M3 hZ3 hf3 hO3 => ?_)
      refine And.intro (by omega) ?_
      refine And.intro (Or.inl rfl) ?_
      have hC4 : qr_C (mv_up M3.1 5 (8 * (3 * 0) + n) 4 0, M3.2) 0 (qg_put F.1.1 n none) := (show qr_C M3 0 F.1.1 from hZ3.1.1).put hq (hZ3.1.1.2.2.2.1 n qq hq).lift (fun t j k hn => mv_up_ne (fun z => hn ⟨z.1, by rw [z.2.1]⟩))
      have hwp := qg_wC_put hC n qg_okp_none
      refine sp_X1_unrest (c := 3 * 0) hC4 hwp.2.1 (fun x hx => (hwp.2.2.2.1 x hx).1) ?_
      have hO4 : mv_off (qf_C 0) M3 (mv_up M3.1 5 (8 * (3 * 0) + n) 4 0, M3.2) := mv_off.rf.up (by unfold qf_C; omega)
      exact h _ ⟨hZ3.wc (qg_wF_act hw) hC4 hO4, Or.inl ((hO4.1 _ _ _ (by unfold qf_C; omega)).trans hf3)⟩ (hO3.tr (hO4.of1 (fun t j => qf_CX)))
  · rw [qg_quo_none c1] at h
    exact h M hX mv_of1.rf
/-- the quotes below k are floated; how many were placed -/
noncomputable def qg_flF (C : qg_C) : Nat → qg_C × Nat
  | 0 => (C, 0)
  | k + 1 => match (qg_flF C k).1.2.1[k]? with
    | none => qg_flF C k
    | some q => match q.2.2.2.2 with
      | some _ => qg_flF C k
      | none => if (qg_best (qg_flF C k).1 k).1 = -99 then qg_flF C k else (qg_put (qg_flF C k).1 k (some (qg_at (qg_best (qg_flF C k).1 k).1.toNat)), (qg_flF C k).2 + 1)
theorem qg_flF_succ (C : qg_C) (k : Nat) : qg_flF C (k + 1) = match (qg_flF C k).1.2.1[k]? with
    | none => qg_flF C k
    | some q => match q.2.2.2.2 with
      | some _ => qg_flF C k
      | none => if (qg_best (qg_flF C k).1 k).1 = -99 then qg_flF C k else (qg_put (qg_flF C k).1 k (some (qg_at (qg_best (qg_flF C k).1 k).1.toNat)), (qg_flF C k).2 + 1) := rfl
theorem qg_best_ok (C : qg_C) (n : Nat) : qg_best C n = (-99, -99) ∨ ∃ m : Nat, m < 360 ∧ qg_best C n = ((m : Int), qg_unrest (qg_put C n (some (qg_at m))).2.1) ∧ qg_reason C n (qg_at m) = 0 := qg_bestF_ok C n 360
theorem qg_flF_ok {C : qg_C} (hw : qg_wC C) (hi : qg_inC C) : ∀ k, qg_wC (qg_flF C k).1 ∧ qg_inC (qg_flF C k).1 ∧ (qg_flF C k).1.2.1.length = C.2.1.length ∧ (qg_flF C k).2 ≤ k
  | 0 => ⟨hw, hi, rfl, Nat.le_refl _⟩
  | k + 1 => by
    obtain ⟨h1, h2, h3, h4⟩ := qg_flF_ok hw hi k
    rw [qg_flF_succ]
    split
    · exact ⟨h1, h2, h3, by omega⟩
    · split
      · exact ⟨h1, h2, h3, by omega⟩
      · split
        · exact ⟨h1, h2, h3, by omega⟩
        · rename_i hb
          rcases qg_best_ok (qg_flF C k).1 k with z | ⟨m, z1, z2, z3⟩
          · rw [z] at hb; exact absurd rfl hb
          · have e : (qg_best (qg_flF C k).1 k).1.toNat = m := by rw [z2]; exact Int.toNat_natCast m
            rw [e]
            refine ⟨qg_wC_put h1 k (qg_okp_at z1), qg_inC_put h2 (fun x hx => ?_), by rw [qg_put_len]; exact h3, by show (qg_flF C k).2 + 1 ≤ k + 1; omega⟩
            cases hx
            exact qg_reason_in z3
noncomputable def op_floatAll (F : qg_F) : Int × qg_F := (((qg_flF F.1.1 F.1.1.2.1.length).2 : Int), qg_wc (qg_act F) (qg_flF F.1.1 F.1.1.2.1.length).1)
theorem wf_floatAll {F : qg_F} (hw : qg_wF F) : qg_wF (op_floatAll F).2 := by
  have h := qg_flF_ok hw.1.1.1 hw.1.2.1 F.1.1.2.1.length
  exact qg_wF_wc (qg_wF_act hw) h.1 h.2.1
theorem qg_wc_wc (F : qg_F) (C D : qg_C) : qg_wc (qg_wc F C) D = qg_wc F D := rfl
theorem qr_Z.frT {M M' : mv_M} {F : qg_F} (h : qr_Z M F) (hw : qg_wF F) (h0 : mv_off qf_T M M') : qr_Z M' F := h.fr hw (fun t j k hf => h0.1 t j k (qf_TZ hf)) h0.2
set_option maxRecDepth 100000 in
theorem sp_X10_floatAll {F : qg_F} {M : mv_M} {Q : mv_R} (hX : qr_X M F) (hw : qg_wF F) (h : ∀ M', qr_X M' (op_floatAll F).2 → mv_of1 qf_X M M' → Q (some (.inl (op_floatAll F).1)) M') : E_X10_floatAll [.inr (10, 0)] M Q := by
  refine ev_X10_floatAll ?_
  refine go_X10_floatAll [16] 90 ?_
  have hC := hw.1.1.1
  have w8 := hC.2.1
  have hwa := qg_wF_act hw
  refine sp_X10_beginAction hX.1 hw (fun M1 hZ1 hf1 hO1 => ?_)
  have hl : ∀ (k : Nat) (M2 : mv_M), k ≤ F.1.1.2.1.length → (qr_Z M2 (qg_wc (qg_act F) (qg_flF F.1.1 k).1) ∧ M2.1 10 0 6 = 1 ∧ mv_of1 qf_X M M2) → ∀ (o : Option mv_V) (w : Int), w = ((qg_flF F.1.1 k).2 : Int) →
      J_X10_floatAll Q 16 [some (.inr (10, 0)), some (.inr (1, 3 * 0)), some (.inl w), some (.inl (k : Int)), o] [] M2 := by
    refine mv_loop F.1.1.2.1.length (fun k M2 hk ih hI o w hw' => ?_)
    subst hw'
    obtain ⟨hZ2, hf2, hO2⟩ := hI
    obtain ⟨g1, g2, g3, g4⟩ := qg_flF_ok hC hw.1.2.1 k
    have hwF2 : qg_wF (qg_wc (qg_act F) (qg_flF F.1.1 k).1) := qg_wF_wc hwa g1 g2
    have hC2 : qr_C M2 (3 * 0) (qg_flF F.1.1 k).1 := hZ2.1.1
    have e4 := hC2.2.1
    refine go_X10_floatAll [16, 76] 90 ?_
    refine And.intro (fun c1 => ?_) (fun c1 => ?_)
    · have : k = F.1.1.2.1.length := by omega
      subst this
      exact h M2 ⟨hZ2, Or.inl hf2⟩ hO2
    · have hlt : k < F.1.1.2.1.length := by omega
      obtain ⟨q, hq⟩ := qg_some (show k < (qg_flF F.1.1 k).1.2.1.length by omega)
      have hqr := hC2.2.2.2.1 k q hq
      have hP := hqr.2.2.2.2
      have hs := qg_flF_succ F.1.1 k
      rw [hq] at hs
      dsimp only at hs
      have next : ∀ (M3 : mv_M) (w : Int), w = ((qg_flF F.1.1 (k + 1)).2 : Int) → qr_Z M3 (qg_wc (qg_act F) (qg_flF F.1.1 (k + 1)).1) → M3.1 10 0 6 = 1 → mv_of1 qf_X M M3 →
          J_X10_floatAll Q 76 [some (.inr (10, 0)), some (.inr (1, 3 * 0)), some (.inl w), some (.inl (k : Int)), some (.inr (5, 8 * (3 * 0) + k))] [] M3 := by
        intro M3 w hw' hZ3 hf3 hO3
        refine go_X10_floatAll [16] 60 ?_
        refine And.intro (by omega) ?_
        exact ih M3 hlt ⟨hZ3, hf3, hO3⟩ _ _ hw'
      refine And.intro (by omega) ?_
      cases ho : q.2.2.2.2 with
      | some p =>
        rw [ho] at hP hs
        have hP1 : M2.1 5 (8 * (3 * 0) + (k : Int).toNat) 4 = 1 := hP.1
        refine And.intro (fun _ => next M2 _ (by rw [hs]) (by rw [hs]; exact hZ2) hf2 hO2) (fun c2 => absurd c2 (by omega))
      | none =>
        rw [ho] at hP hs
        have hP1 : M2.1 5 (8 * (3 * 0) + (k : Int).toNat) 4 = 0 := hP
        refine And.intro (fun c2 => absurd hP1 c2) (fun _ => ?_)
        refine sp_X9_seekBest (c := 3 * 0) (n := k) rfl (by decide) hC2 g1 (by omega) (fun M3 b4 b5 hO3 => ?_)
        have hZ3 := hZ2.frT hwF2 hO3
        have hf3 : M3.1 10 0 6 = 1 := (hO3.1 _ _ _ (by unfold qf_T qf_L qf_C; omega)).trans hf2
        have hO3' : mv_of1 qf_X M M3 := hO2.tr (hO3.of1 (fun t j => qf_TX))
        refine And.intro (fun c3 => ?_) (fun c3 => ?_)
        · rw [if_pos (by omega)] at hs
          exact next M3 _ (by rw [hs]) (by rw [hs]; exact hZ3) hf3 hO3'
        · rw [if_neg (by omega)] at hs
          rcases qg_best_ok (qg_flF F.1.1 k).1 k with z | ⟨m, z1, z2, z3⟩
          · rw [z] at b4; exact absurd b4 c3
          · have e : (qg_best (qg_flF F.1.1 k).1 k).1.toNat = m := by rw [z2]; exact Int.toNat_natCast m
            rw [e] at hs
            have b4' : M3.1 9 0 4 = (m : Int) := by rw [b4, z2]
            refine sp_X5_moveTo (m := m) b4' (hZ3.1.1.2.2.2.1 k q hq) (fun M4 hq4 hO4 => ?_)
            have hC4 : qr_C M4 0 (qg_put (qg_flF F.1.1 k).1 k (some (qg_at m))) := (show qr_C M3 0 (qg_flF F.1.1 k).1 from hZ3.1.1).put hq hq4 (fun t j k hn => hO4.1 t j k (fun z => hn ⟨z.1, by rw [z.2]; rfl⟩))
            have hO4' : mv_off (qf_C 0) M3 M4 := hO4.wk (fun t j z => by
              obtain ⟨z1, z2⟩ := z
              have z2 : j = 8 * (3 * 0) + k := z2
              unfold qf_C; omega)
            have hZ4 := hZ3.wc hwF2 hC4 hO4'
            rw [qg_wc_wc] at hZ4
            refine And.intro (by omega) ?_
            refine next M4 _ (by rw [hs]; rfl) (by rw [hs]; exact hZ4) ((hO4'.1 _ _ _ (by unfold qf_C; omega)).trans hf3) (hO3'.tr (hO4'.of1 (fun t j => qf_CX)))
  exact hl 0 M1 (Nat.zero_le _) ⟨hZ1, hf1, hO1⟩ none _ rfl
def op_setRule (F : qg_F) (w v : Int) : Int × qg_F :=
  if w = 0 then (if (0 ≤ v ∧ v ≤ 10) ∧ v ≤ (F.1.1.2.2.2.1 : Int) then ((F.1.1.2.2.1 : Int), qg_wc (qg_act F) (F.1.1.1, F.1.1.2.1, v.toNat, F.1.1.2.2.2.1, F.1.1.2.2.2.2)) else (-1, F))
  else if w = 1 then (if (0 ≤ v ∧ v ≤ 20) ∧ (F.1.1.2.2.1 : Int) ≤ v then ((F.1.1.2.2.2.1 : Int), qg_wc (qg_act F) (F.1.1.1, F.1.1.2.1, F.1.1.2.2.1, v.toNat, F.1.1.2.2.2.2)) else (-1, F))
  else if w = 2 then (if 1 ≤ v ∧ v ≤ 10 then ((F.1.1.2.2.2.2 : Int), qg_wc (qg_act F) (F.1.1.1, F.1.1.2.1, F.1.1.2.2.1, F.1.1.2.2.2.1, v.toNat)) else (-1, F))
  else (-1, F)
theorem wf_setRule {F : qg_F} (hw : qg_wF F) (w v : Int) : qg_wF (op_setRule F w v).2 := by
  have hC := hw.1.1.1
  have key : ∀ a b c : Nat, a ≤ 10 → a ≤ b → b ≤ 20 → 1 ≤ c → c ≤ 10 → qg_wF (qg_wc (qg_act F) (F.1.1.1, F.1.1.2.1, a, b, c)) := fun a b c h1 h2 h3 h4 h5 =>
    qg_wF_wc (qg_wF_act hw) ⟨hC.1, hC.2.1, hC.2.2.1, hC.2.2.2.1, h1, h2, h3, h4, h5⟩ hw.1.2.1
  have r := hC.2.2.2.2
  unfold op_setRule
  split
  · split
    · exact key _ _ _ (by omega) (by omega) r.2.2.1 r.2.2.2.1 r.2.2.2.2
    · exact hw
  · split
    · split
      · exact key _ _ _ r.1 (by omega) (by omega) r.2.2.2.1 r.2.2.2.2
      · exact hw
    · split
      · split
        · exact key _ _ _ r.1 r.2.1 r.2.2.1 (by omega) (by omega)
        · exact hw
      · exact hw
theorem qr_C.rule {M M' : mv_M} {c a b g : Nat} {C : qg_C} (h : qr_C M c C) (h0 : ∀ t j k, ¬ (t = 14 ∧ j = c) → M'.1 t j k = M.1 t j k) (h1 : M'.1 14 c 0 = (a : Int)) (h2 : M'.1 14 c 1 = (b : Int)) (h3 : M'.1 14 c 2 = (g : Int)) : qr_C M' c (C.1, C.2.1, a, b, g) :=
  ⟨(h0 _ _ _ (by omega)).trans h.1, (h0 _ _ _ (by omega)).trans h.2.1, fun i x hx => (h.2.2.1 i x hx).fr (fun k => h0 _ _ _ (by omega)) (fun k => h0 _ _ _ (by omega)), fun i q hq => (h.2.2.2.1 i q hq).fr (fun k => h0 _ _ _ (by omega)), h1, h2, h3⟩
set_option maxRecDepth 100000 in
theorem sp_X10_setRule {F : qg_F} {w v : Int} {M : mv_M} {Q : mv_R} (hX : qr_X M F) (hw : qg_wF F) (h : ∀ M', qr_X M' (op_setRule F w v).2 → mv_of1 qf_X M M' → Q (some (.inl (op_setRule F w v).1)) M') : E_X10_setRule [.inr (10, 0), .inl w, .inl v] M Q := by
  refine ev_X10_setRule ?_
  refine go_X10_setRule [47, 79, 94, 101] 90 ?_
  have hC := hw.1.1.1
  have hCr := hX.1.1.1
  have r0 : M.1 14 (3 * 0) (0 : Int).toNat = (F.1.1.2.2.1 : Int) := hCr.2.2.2.2.1
  have r1 : M.1 14 (3 * 0) (1 : Int).toNat = (F.1.1.2.2.2.1 : Int) := hCr.2.2.2.2.2.1
  have r2 : M.1 14 (3 * 0) (2 : Int).toNat = (F.1.1.2.2.2.2 : Int) := hCr.2.2.2.2.2.2
  -- the end of a refused call
  have no : (op_setRule F w v) = (-1, F) → ∀ o, J_X10_setRule Q 94 [some (.inr (10, 0)), some (.inl w), some (.inl v), some (.inr (14, 3 * 0)), some (.inl 0), o] [] M := by
    intro e o
    rw [e] at h
    refine go_X10_setRule [101] 60 ?_
    refine mv_nf ?_
    exact h M hX mv_of1.rf
  have yes : ∀ n : Nat, w = (n : Int) → n < 3 → 0 ≤ v → (op_setRule F w v) = (M.1 14 (3 * 0) n, qg_wc (qg_act F) (F.1.1.1, F.1.1.2.1, if n = 0 then v.toNat else F.1.1.2.2.1, if n = 1 then v.toNat else F.1.1.2.2.2.1, if n = 2 then v.toNat else F.1.1.2.2.2.2)) →
      ∀ o, J_X10_setRule Q 94 [some (.inr (10, 0)), some (.inl w), some (.inl v), some (.inr (14, 3 * 0)), some (.inl 1), o] [] M := by
    intro n hn h3 hv e o
    subst hn
    rw [e] at h
    refine go_X10_setRule [] 60 ?_
    refine mv_nt ?_
    refine sp_X10_beginAction hX.1 hw (fun M3 hZ3 hf3 hO3 => ?_)
    refine And.intro (by omega) ?_
    refine And.intro (by omega) ?_
    obtain ⟨m, rfl⟩ := Int.eq_ofNat_of_zero_le hv
    have hc3 : qr_C M3 (3 * 0) F.1.1 := hZ3.1.1
    have hcc := hX.1.1.1
    have er : M3.1 14 (3 * 0) (n : Int).toNat = M.1 14 (3 * 0) n := by
      have : n = 0 ∨ n = 1 ∨ n = 2 := by omega
      rcases this with rfl | rfl | rfl
      · exact hc3.2.2.2.2.1.trans hcc.2.2.2.2.1.symm
      · exact hc3.2.2.2.2.2.1.trans hcc.2.2.2.2.2.1.symm
      · exact hc3.2.2.2.2.2.2.trans hcc.2.2.2.2.2.2.symm
    have hC4 : qr_C (mv_up M3.1 14 (3 * 0) n (m : Int), M3.2) 0 (F.1.1.1, F.1.1.2.1, if n = 0 then (m : Int).toNat else F.1.1.2.2.1, if n = 1 then (m : Int).toNat else F.1.1.2.2.2.1, if n = 2 then (m : Int).toNat else F.1.1.2.2.2.2) := by
      refine (show qr_C M3 0 F.1.1 from hc3).rule (fun t j k hn => mv_up_ne (fun z => hn ⟨z.1, z.2.1⟩)) ?_ ?_ ?_
      · by_cases hz : n = 0
        · subst hz; simp [mv_up]
        · have hz2 : ¬ 0 = n := fun z => hz z.symm
          rw [if_neg hz]; simpa [mv_up, hz2] using hc3.2.2.2.2.1
      · by_cases hz : n = 1
        · subst hz; simp [mv_up]
        · have hz2 : ¬ 1 = n := fun z => hz z.symm
          rw [if_neg hz]; simpa [mv_up, hz2] using hc3.2.2.2.2.2.1
      · by_cases hz : n = 2
        · subst hz; simp [mv_up]
        · have hz2 : ¬ 2 = n := fun z => hz z.symm
          rw [if_neg hz]; simpa [mv_up, hz2] using hc3.2.2.2.2.2.2
    have hO4 : mv_off (qf_C 0) M3 (mv_up M3.1 14 (3 * 0) n (m : Int), M3.2) := mv_off.rf.up (by unfold qf_C; omega)
    have hh := h _ ⟨hZ3.wc (qg_wF_act hw) hC4 hO4, Or.inl ((hO4.1 _ _ _ (by unfold qf_C; omega)).trans hf3)⟩ (hO3.tr (hO4.of1 (fun t j => qf_CX)))
    rw [← er] at hh
    exact hh
  refine sp_isWithin (fun c1 => mv_nt ?_) (fun c1 => mv_nf ?_)
  · refine And.intro (fun c2 => ?_) (fun c2 => ?_)
    · refine And.intro (fun c3 => ?_) (fun c3 => ?_)
      · have e : w = 2 := by omega
        subst e
        refine sp_isWithin (fun c4 => ?_) (fun c4 => ?_)
        · refine yes 2 rfl (by omega) (by omega) ?_ _
          unfold op_setRule
          rw [if_neg (by omega), if_neg (by omega), if_pos rfl, if_pos c4]
          rw [show M.1 14 (3 * 0) 2 = (F.1.1.2.2.2.2 : Int) from r2]
          rfl
        · refine no ?_ _
          unfold op_setRule
          rw [if_neg (by omega), if_neg (by omega), if_pos rfl, if_neg c4]
      · have e : w = 1 := by omega
        subst e
        have bad : ¬ ((0 ≤ v ∧ v ≤ 20) ∧ (F.1.1.2.2.1 : Int) ≤ v) → J_X10_setRule Q 79 [some (.inr (10, 0)), some (.inl 1), some (.inl v), some (.inr (14, 3 * 0)), none, none] [] M := by
          intro hn
          refine go_X10_setRule [94] 60 ?_
          refine no ?_ _
          unfold op_setRule
          rw [if_neg (by omega), if_pos rfl, if_neg hn]
        refine sp_isWithin (fun c4 => mv_t ?_) (fun c4 => mv_f (bad (fun z => c4 z.1)))
        refine And.intro (by omega) ?_
        refine And.intro (fun c5 => bad (by omega)) (fun c5 => ?_)
        refine yes 1 rfl (by omega) (by omega) ?_ _
        unfold op_setRule
        rw [if_neg (by omega), if_pos rfl, if_pos (by omega)]
        rw [show M.1 14 (3 * 0) 1 = (F.1.1.2.2.2.1 : Int) from r1]
        rfl
    · have e : w = 0 := by omega
      subst e
      have bad : ¬ ((0 ≤ v ∧ v ≤ 10) ∧ v ≤ (F.1.1.2.2.2.1 : Int)) → J_X10_setRule Q 47 [some (.inr (10, 0)), some (.inl 0), some (.inl v), some (.inr (14, 3 * 0)), none, none] [] M := by
        intro hn
        refine go_X10_setRule [94] 60 ?_
        refine no ?_ _
        unfold op_setRule
        rw [if_pos rfl, if_neg hn]
      refine sp_isWithin (fun c4 => mv_t ?_) (fun c4 => mv_f (bad (fun z => c4 z.1)))
      refine And.intro (by omega) ?_
      refine And.intro (fun c5 => bad (by omega)) (fun c5 => ?_)
      refine yes 0 rfl (by omega) (by omega) ?_ _
      unfold op_setRule
      rw [if_pos rfl, if_pos (by omega)]
      rw [show M.1 14 (3 * 0) 0 = (F.1.1.2.2.1 : Int) from r0]
      rfl
  · have e : op_setRule F w v = (-1, F) := by
      unfold op_setRule
      rw [if_neg (by omega), if_neg (by omega), if_neg (by omega)]
    rw [e] at h
    exact h M hX mv_of1.rf
