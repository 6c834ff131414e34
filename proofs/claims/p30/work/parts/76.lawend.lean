/-! The law: behind the rounds. -/
theorem no_addArticle (F : qg_F) {a b : Int} (h : ¬ ((0 ≤ a ∧ a ≤ 359) ∧ 1 ≤ b ∧ b ≤ 200)) : op_addArticle F a b = (-1, F) := if_neg h
theorem no_setRule0 (F : qg_F) : op_setRule F 0 11 = (-1, F) := by
  unfold op_setRule
  rw [if_pos rfl, if_neg (fun z => absurd z.1.2 (by decide))]
theorem no_setRule2 (F : qg_F) : op_setRule F 2 0 = (-1, F) := by
  unfold op_setRule
  rw [if_neg (by decide), if_neg (by decide), if_pos rfl, if_neg (by decide)]
theorem no_take (F : qg_F) : op_take F 2 = (-1, F) := if_neg (by decide)
theorem no_refusal {F : qg_F} (hw : qg_wF F) : an_refusal F 8 0 0 0 = -1 := if_neg (fun z => by
  have h1 := z.1.2
  have h2 := hw.1.1.1.2.1
  omega)
/-- reading no text changes the history alone -/
theorem no_load {F : qg_F} (hp : pz_F F) : (op_load F).1 = 0 ∧ (op_load F).2.1 = F.1 := by
  unfold op_load
  rw [hp.2.2]
  exact ⟨rfl, rfl⟩
theorem no_load_w {F : qg_F} (hw : qg_wF F) : qg_wF (op_load F).2 := wf_load hw
/-- the best place is let: what the law asks of it -/
theorem best_at {F : qg_F} {m : Nat} (hm : m < 360) (hr : qg_reason F.1.1 0 (qg_at m) = 0) (hq : 0 < F.1.1.2.1.length) :
    an_refusal F 0 ((m : Int) / 120) ((m : Int) / 20 % 6) ((m : Int) % 20) = 0 ∧
    op_place F 0 ((m : Int) / 120) ((m : Int) / 20 % 6) ((m : Int) % 20) = (qg_unrest (qg_put F.1.1 0 (some (qg_at m))).2.1, qg_wc (qg_act F) (qg_put F.1.1 0 (some (qg_at m)))) := by
  have e : ((0 : Int).toNat, ((m : Int) / 120).toNat, ((m : Int) / 20 % 6).toNat, ((m : Int) % 20).toNat) = (0, qg_at m) := by
    have h1 : ((m : Int) / 120).toNat = m / 120 := by omega
    have h2 : ((m : Int) / 20 % 6).toNat = m % 120 / 20 := by omega
    have h3 : ((m : Int) % 20).toNat = m % 20 := by omega
    rw [h1, h2, h3]
    rfl
  have e0 : (0 : Int).toNat = 0 := rfl
  have e1 : (((m : Int) / 120).toNat, ((m : Int) / 20 % 6).toNat, ((m : Int) % 20).toNat) = qg_at m := congrArg (fun x => x.2) e
  have hb : (0 ≤ (0 : Int) ∧ (0 : Int) < (F.1.1.2.1.length : Int)) ∧ (0 ≤ (m : Int) / 120 ∧ (m : Int) / 120 ≤ 2) ∧ (0 ≤ (m : Int) / 20 % 6 ∧ (m : Int) / 20 % 6 ≤ 5) ∧ 0 ≤ (m : Int) % 20 ∧ (m : Int) % 20 ≤ 19 := by omega
  constructor
  · unfold an_refusal
    rw [if_pos hb, e1, e0]
    exact hr
  · unfold op_place
    rw [if_pos hb, e1, e0, if_pos hr]
theorem best_placed {F : qg_F} {m : Nat} (hq : 0 < F.1.1.2.1.length) : ∃ z : Int, 0 ≤ z ∧ an_quote (qg_wc (qg_act F) (qg_put F.1.1 0 (some (qg_at m)))) 0 4 = z := by
  obtain ⟨q, hq⟩ := qg_some hq
  have h1 := qg_put_at hq (some (qg_at m))
  have h2 := aq_4 (F := qg_wc (qg_act F) (qg_put F.1.1 0 (some (qg_at m)))) (k := 0) h1
  exact ⟨((m / 120 : Nat) : Int), by omega, h2⟩
section LE
variable {X : mw_X} {b : Nat} {E : List mw_V → mv_M → Prop}
set_option maxRecDepth 100000 in
/-- the wrong calls, and the empty text -/
theorem lw_446 (go : lw_go X b E) {F : qg_F} (hw : qg_wF F) (hp : pz_F F) {z : Int64} (hz : dg F = z) (hE : ∀ M, E [.inl (.inl 1)] M) {M1 : mv_M} (hX : qr_X M1 F) (x4 x5 x6 x7 x8 x9 x10 x11 : Option mw_V) :
    mw_G X 446 (lL b (sD z) none x4 x5 x6 x7 x8 x9 x10 x11) [] M1 := by
  refine go [524] 80 _ _ _ _ ?_
  refine so_addArticle hX hw (no_addArticle F (by omega)) (fun M2 hX2 => ?_)
  refine And.intro (fun c => absurd rfl c) (fun _ => ?_)
  refine so_addArticle hX2 hw (no_addArticle F (by omega)) (fun M3 hX3 => ?_)
  refine And.intro (fun c => absurd rfl c) (fun _ => ?_)
  refine so_setRule hX3 hw (no_setRule0 F) (fun M4 hX4 => ?_)
  refine And.intro (fun c => absurd rfl c) (fun _ => ?_)
  refine so_setRule hX4 hw (no_setRule2 F) (fun M5 hX5 => ?_)
  refine And.intro (fun c => absurd rfl c) (fun _ => ?_)
  refine so_take hX5 hw (no_take F) (fun M6 hX6 => ?_)
  refine And.intro (fun c => absurd rfl c) (fun _ => ?_)
  refine sq_refusal (M0 := M6) ⟨hX6, mv_of1.rf⟩ hw (no_refusal hw) (fun M7 hI7 => ?_)
  refine And.intro (fun c => absurd rfl c) (fun _ => ?_)
  refine sd_digest hI7.1 hw hz (fun M8 hX8 => ?_)
  refine And.intro rfl ?_
  refine And.intro (fun _ => ?_) (fun c => absurd rfl c)
  refine go [] 80 _ _ _ _ ?_
  have hl := no_load hp
  have hwl := no_load_w hw
  refine so_load hX8 hw (fun M9 hX9 => ?_)
  refine And.intro (fun c => absurd hl.1 c) (fun _ => ?_)
  refine sd_digest hX9 hwl ((dg_same hl.2).trans hz) (fun M10 hX10 => ?_)
  refine And.intro rfl ?_
  refine And.intro (fun c => absurd rfl c) (fun _ => ?_)
  refine sq_count (r := -1) (M0 := M10) ⟨hX10, mv_of1.rf⟩ hwl rfl (fun M11 hI11 => ?_)
  refine And.intro (fun c => absurd rfl c) (fun _ => ?_)
  refine sq_page (r := -1) hI11 hwl rfl (fun M12 hI12 => ?_)
  refine And.intro (fun c => absurd rfl c) (fun _ => ?_)
  exact hE M12
set_option maxRecDepth 100000 in
/-- the room of each article -/
theorem lw_400 (go : lw_go X b E) {F : qg_F} (hw : qg_wF F) (hp : pz_F F) {z : Int64} (hz : dg F = z) (hE : ∀ M, E [.inl (.inl 1)] M) :
    ∀ (k : Nat) (M1 : mv_M), k ≤ F.1.1.1.length → qr_X M1 F → ∀ x5 x6 x7 x8 x9 x10 x11, mw_G X 400 (lL b (sD z) none (sW k) x5 x6 x7 x8 x9 x10 x11) [] M1 := by
  have h6 := hw.1.1.1.1
  refine mv_loop F.1.1.1.length (fun k M1 hk0 ih hX x5 x6 x7 x8 x9 x10 x11 => ?_)
  refine go [400, 446] 60 _ _ _ _ ?_
  refine sq_count (r := (F.1.1.1.length : Int)) (M0 := M1) ⟨hX, mv_of1.rf⟩ hw rfl (fun M2 hI2 => ?_)
  refine And.intro (fun c => lw_446 go hw hp hz hE hI2.1 _ _ _ _ _ _ _ _) (fun c => ?_)
  obtain ⟨A, hA⟩ := qg_some (show k < F.1.1.1.length by omega)
  refine sp_X10_roomFor hI2.1 hw (fun M3 x hr hX3 _ => ?_)
  unfold is_room at hr
  rw [an_art hA] at hr
  obtain ⟨r, rfl, hr1, hr2, -⟩ := hr
  refine sq_article (M0 := M3) ⟨hX3, mv_of1.rf⟩ hw (ar_1 hA) (fun M4 hI4 => ?_)
  refine And.intro (fun c2 => absurd c2 (by omega)) (fun _ => ?_)
  refine And.intro (fun _ => ?_) (fun c2 => absurd c2 (by omega))
  refine And.intro (by omega) ?_
  exact ih M4 (by omega) hI4.1 _ _ _ _ _ _ _
set_option maxRecDepth 100000 in
theorem lw_397 (go : lw_go X b E) {F : qg_F} (hw : qg_wF F) (hp : pz_F F) {z : Int64} (hz : dg F = z) (hE : ∀ M, E [.inl (.inl 1)] M) {M1 : mv_M} (hX : qr_X M1 F) {x4 x5 x6 x7 x8 x9 x10 x11 : Option mw_V} :
    mw_G X 397 (lL b (sD z) none x4 x5 x6 x7 x8 x9 x10 x11) [] M1 := by
  refine go [400] 20 _ _ _ _ ?_
  exact lw_400 go hw hp hz hE 0 M1 (Nat.zero_le _) hX _ _ _ _ _ _ _
set_option maxRecDepth 100000 in
/-- the best place of the first quote: it is let, and undone -/
theorem lw_306 (go : lw_go X b E) {F : qg_F} (hw : qg_wF F) (hp : pz_F F) {z : Int64} (hz : dg F = z) (hE : ∀ M, E [.inl (.inl 1)] M) (hq : 0 < F.1.1.2.1.length) {m : Nat} (hm : m < 360) (hr : qg_reason F.1.1 0 (qg_at m) = 0) {M1 : mv_M} (hX : qr_X M1 F) {z6 z7 : Int} {x8 x9 x10 x11 : Option mw_V} :
    mw_G X 306 (lL b (sD z) none (sW m) (sW (qg_unrest (qg_put F.1.1 0 (some (qg_at m))).2.1)) (sW z6) (sW z7) x8 x9 x10 x11) [] M1 := by
  obtain ⟨hb1, hb2⟩ := best_at hm hr hq
  obtain ⟨z4, hz4, hq4⟩ := best_placed (F := F) (m := m) hq
  have hwp := wf_place hw 0 ((m : Int) / 120) ((m : Int) / 20 % 6) ((m : Int) % 20)
  have hpp := pz_place hw hp 0 ((m : Int) / 120) ((m : Int) / 20 % 6) ((m : Int) % 20)
  rw [hb2] at hwp hpp
  have hun := qg_last ((if F.2.1.length = 5 then F.2.1.tail else F.2.1) ++ [F.1])
  have hu0 : 0 ≤ (op_undo (qg_wc (qg_act F) (qg_put F.1.1 0 (some (qg_at m))))).1 ∧ (op_undo (qg_wc (qg_act F) (qg_put F.1.1 0 (some (qg_at m))))).2.1 = F.1 := by
    have e : (qg_wc (qg_act F) (qg_put F.1.1 0 (some (qg_at m)))).2.1 = (if F.2.1.length = 5 then F.2.1.tail else F.2.1) ++ [F.1] := rfl
    have hl : ((if F.2.1.length = 5 then F.2.1.tail else F.2.1) ++ [F.1]).getLast? = some F.1 := by simp only [List.getLast?_append, List.getLast?_singleton, Option.some_or]
    unfold op_undo
    rw [e, hl]
    exact ⟨by show (0 : Int) ≤ ((List.length _ : Nat) : Int); omega, rfl⟩
  refine go [388, 397] 80 _ _ _ _ ?_
  refine And.intro (by omega) (And.intro (by omega) (And.intro (by omega) (And.intro (by omega) ?_)))
  refine sq_refusal (M0 := M1) ⟨hX, mv_of1.rf⟩ hw hb1 (fun M2 hI2 => ?_)
  refine And.intro (fun c => absurd rfl c) (fun _ => ?_)
  refine And.intro (by omega) (And.intro (by omega) (And.intro (by omega) (And.intro (by omega) ?_)))
  refine so_place hI2.1 hw hb2 (fun M3 hX3 => ?_)
  refine And.intro (fun c => absurd rfl c) (fun _ => ?_)
  have at388 : ∀ M', qr_X M' (qg_wc (qg_act F) (qg_put F.1.1 0 (some (qg_at m)))) → mw_G X 388 (lL b (sD z) none (sW m) (sW (qg_unrest (qg_put F.1.1 0 (some (qg_at m))).2.1)) (sW z6) (sW z7) x8 x9 x10 x11) [] M' := fun M' hX' => by
    refine go [397] 40 _ _ _ _ ?_
    refine so_undo hX' hwp (fun M5 hX5 => ?_)
    refine And.intro (fun _ => ?_) (fun c => absurd c (by omega))
    exact lw_397 go (wf_undo hwp) (pz_undo hpp) ((dg_same hu0.2).trans hz) hE hX5
  refine And.intro (fun _ => at388 M3 hX3) (fun _ => ?_)
  refine sq_troubled (M0 := M3) ⟨hX3, mv_of1.rf⟩ hwp rfl (fun M4 hI4 => ?_)
  refine And.intro (fun _ => at388 M4 hI4.1) (fun _ => ?_)
  refine And.intro (fun _ => at388 M4 hI4.1) (fun _ => ?_)
  refine sq_quote hI4 hwp hq4 (fun M5 hI5 => ?_)
  exact And.intro (fun c => absurd c (by omega)) (fun _ => at388 M5 hI5.1)
theorem so_bestPlace {F : qg_F} {M0 M : mv_M} {Q : mv_R} {r a w : Int} (hI : pz_I F M0 M) (hw : qg_wF F) (hr : an_bestPlace F a w = r) (h : ∀ M', pz_I F M0 M' → Q (some (.inl r)) M') : E_X10_bestPlace [.inr (10, 0), .inl a, .inl w] M Q := by
  subst hr
  exact sp_X10_bestPlace hI.1 hw (fun M' h1 h2 => h M' ⟨h1, hI.2.tr h2⟩)
set_option maxRecDepth 100000 in
theorem lw_225 (go : lw_go X b E) {F : qg_F} (hw : qg_wF F) (hp : pz_F F) (hE : ∀ M, E [.inl (.inl 1)] M) {M1 : mv_M} (hX : qr_X M1 F) {x2 x3 x4 x5 x6 x7 x8 x9 x10 x11 : Option mw_V} :
    mw_G X 225 (lL b x2 x3 x4 x5 x6 x7 x8 x9 x10 x11) [] M1 := by
  refine go [268, 397] 60 _ _ _ _ ?_
  refine sd_digest hX hw rfl (fun M2 hX2 => ?_)
  refine sq_count (r := (F.1.1.2.1.length : Int)) (M0 := M2) ⟨hX2, mv_of1.rf⟩ hw rfl (fun M3 hI3 => ?_)
  refine And.intro (fun _ => lw_397 go hw hp rfl hE hI3.1) (fun c => ?_)
  have hq : 0 < F.1.1.2.1.length := by omega
  have hbp : ∀ w : Int, 0 ≤ w ∧ w ≤ 1 → an_bestPlace F 0 w = if w = 0 then (qg_best F.1.1 0).1 else (qg_best F.1.1 0).2 := fun w h01 => by
    unfold an_bestPlace
    rw [if_pos (by omega)]
    rfl
  refine so_bestPlace (r := (qg_best F.1.1 0).1) hI3 hw ((hbp 0 (by omega)).trans (if_pos rfl)) (fun M4 hI4 => ?_)
  refine so_bestPlace (r := (qg_best F.1.1 0).2) hI4 hw ((hbp 1 (by omega)).trans (if_neg (by decide))) (fun M5 hI5 => ?_)
  refine sq_quote hI5 hw rfl (fun M6 hI6 => ?_)
  have at268 : ∀ z6 : Int, mw_G X 268 (lL b (sD (dg F)) none (sW (qg_best F.1.1 0).1) (sW (qg_best F.1.1 0).2) x6 x7 x8 x9 x10 x11) [.inl (.inl z6)] M6 := fun z6 => by
    refine go [306, 397] 60 _ _ _ _ ?_
    refine sq_count (r := qg_unrest F.1.1.2.1) hI6 hw rfl (fun M7 hI7 => ?_)
    rcases qg_best_ok F.1.1 0 with hb | ⟨m, hm, hb, hr⟩
    · rw [hb]
      refine And.intro (fun c2 => absurd c2 (by decide)) (fun _ => ?_)
      refine And.intro (fun c2 => absurd c2 (by decide)) (fun _ => ?_)
      refine And.intro (fun c2 => absurd rfl c2) (fun _ => ?_)
      exact And.intro (fun _ => lw_397 go hw hp rfl hE hI7.1) (fun c2 => absurd c2 (by decide))
    · rw [hb]
      have hu := pz_unrest_0 (qg_put F.1.1 0 (some (qg_at m))).2.1
      refine And.intro (fun _ => ?_) (fun c2 => absurd c2 (by omega))
      refine And.intro (fun _ => ?_) (fun c2 => absurd c2 (by omega))
      refine And.intro (fun c2 => absurd rfl c2) (fun _ => ?_)
      exact And.intro (fun c2 => absurd c2 (by omega)) (fun _ => lw_306 go hw hp rfl hE hq hm hr hI7.1)
  exact And.intro (fun _ => at268 0) (fun _ => at268 1)
set_option maxRecDepth 100000 in
/-- the law, from behind its object -/
theorem lw_all (go : lw_go X b E) {F : qg_F} (hw : qg_wF F) (hp : pz_F F) (hE : ∀ M, E [.inl (.inl 1)] M) {M1 : mv_M} (hX : qr_X M1 F) {x2 x3 x4 x5 x6 x7 x8 x9 x10 x11 : Option mw_V} :
    mw_G X 8 (lL b x2 x3 x4 x5 x6 x7 x8 x9 x10 x11) [] M1 := by
  refine go [10] 20 _ _ _ _ ?_
  exact lw_rounds go (fun M' F' g1 g2 g3 x2 x3 x4 x5 x6 x7 x8 x9 x10 x11 => lw_225 go g2 g3 hE g1) 0 (M1, F) (Nat.zero_le _) hX hw hp _ _ _ _ _ _ _ _ _
end LE
