/-! isRight: the pages, the sums, the whole. -/
section AP
variable {F : qg_F} {P : Nat}
theorem ap_0 (h : P < 3) : an_page F (P : Int) 0 = qg_bal F.1.1.2.1 P := by
  unfold an_page
  rw [if_pos (by omega)]
  rfl
theorem ap_1 (h : P < 3) : an_page F (P : Int) 1 = (qg_cnt (qg_lay F.1.1).1 (120 * P) 21 120 : Int) := by
  unfold an_page
  rw [if_pos (by omega)]
  rfl
theorem ap_2 (h : P < 3) : an_page F (P : Int) 2 = (qg_cnt (qg_lay F.1.1).1 (120 * P) 1 120 : Int) - (qg_cnt (qg_lay F.1.1).1 (120 * P) 21 120 : Int) := by
  unfold an_page
  rw [if_pos (by omega)]
  rfl
end AP
section RF
variable {F : qg_F} {M0 : mv_M} {Q : mv_R}
set_option maxRecDepth 100000 in
theorem rw_final (hw : qg_wF F) (hd : pz_dj F.1.1.2.1) {y : Int} {x2 : Option mv_V} (h : ∀ M', pz_I F M0 M' → Q (some (.inl 1)) M') {M1 : mv_M} (hI : pz_I F M0 M1) {z3 z4 z5 z6 z7 : Int} (h3 : z3 = (qg_cnt (qg_lay F.1.1).1 0 1 360 : Int)) (h4 : z4 = (qg_sum (qg_ov F.1.1) F.1.1.1.length : Int)) (h5 : z5 = (qg_sum (qg_ju F.1.1) F.1.1.1.length : Int)) (h6 : z6 = (qg_placed F.1.1.2.1 : Int)) (h7 : z7 = (qg_trF F.1.1 F.1.1.2.1.length : Int)) (x8 x9 x10 x11 x12 x13 : Option mv_V) :
    J_L_isRight Q 484 (rL (sI y) x2 (sI z3) (sI z4) (sI z5) (sI z6) (sI z7) x8 x9 x10 x11 x12 x13) [] M1 := by
  subst h3 h4 h5 h6 h7
  have hC := hw.1.1.1
  have hin := hw.1.2.1
  have hpg := pz_cnt_pages (qg_lay F.1.1).1 1
  have l0 := qg_cnt_le (qg_lay F.1.1).1 (120 * 0) 1 120
  have l1 := qg_cnt_le (qg_lay F.1.1).1 (120 * 1) 1 120
  have l2 := qg_cnt_le (qg_lay F.1.1).1 (120 * 2) 1 120
  have m0 := qg_cnt_le (qg_lay F.1.1).1 (120 * 0) 21 120
  have m1 := qg_cnt_le (qg_lay F.1.1).1 (120 * 1) 21 120
  have m2 := qg_cnt_le (qg_lay F.1.1).1 (120 * 2) 21 120
  have a0 := pz_page_cnt hC hin hd 0
  have a1 := pz_page_cnt hC hin hd 1
  have a2 := pz_page_cnt hC hin hd 2
  have b0 := pz_bal_le hC 0
  have b1 := pz_bal_le hC 1
  have b2 := pz_bal_le hC 2
  have c0 := pz_bal_0 F.1.1.2.1 0
  have c1 := pz_bal_0 F.1.1.2.1 1
  have c2 := pz_bal_0 F.1.1.2.1 2
  have hu : qg_unrest F.1.1.2.1 = qg_bal F.1.1.2.1 0 + qg_bal F.1.1.2.1 1 + qg_bal F.1.1.2.1 2 := rfl
  refine go_L_isRight [] 300 ?_
  -- page 0
  refine And.intro (fun c => absurd c (by decide)) (fun _ => ?_)
  refine sq_page hI hw (ap_1 (P := 0) (by decide)) (fun M2 hI2 => ?_)
  refine sq_page hI2 hw (ap_2 (P := 0) (by decide)) (fun M3 hI3 => ?_)
  refine And.intro (by omega) (And.intro (by omega) ?_)
  refine sq_page hI3 hw (ap_0 (P := 0) (by decide)) (fun M4 hI4 => ?_)
  refine And.intro (by omega) ?_
  refine sq_page hI4 hw (ap_0 (P := 0) (by decide)) (fun M5 hI5 => ?_)
  refine sq_page hI5 hw (ap_1 (P := 0) (by decide)) (fun M6 hI6 => ?_)
  refine And.intro (fun _ => ?_) (fun c => absurd c (by omega))
  refine And.intro (by decide) ?_
  -- page 1
  refine And.intro (fun c => absurd c (by decide)) (fun _ => ?_)
  refine sq_page hI6 hw (ap_1 (P := 1) (by decide)) (fun M7 hI7 => ?_)
  refine sq_page hI7 hw (ap_2 (P := 1) (by decide)) (fun M8 hI8 => ?_)
  refine And.intro (by omega) (And.intro (by omega) ?_)
  refine sq_page hI8 hw (ap_0 (P := 1) (by decide)) (fun M9 hI9 => ?_)
  refine And.intro (by omega) ?_
  refine sq_page hI9 hw (ap_0 (P := 1) (by decide)) (fun M10 hI10 => ?_)
  refine sq_page hI10 hw (ap_1 (P := 1) (by decide)) (fun M11 hI11 => ?_)
  refine And.intro (fun _ => ?_) (fun c => absurd c (by omega))
  refine And.intro (by decide) ?_
  -- page 2
  refine And.intro (fun c => absurd c (by decide)) (fun _ => ?_)
  refine sq_page hI11 hw (ap_1 (P := 2) (by decide)) (fun M12 hI12 => ?_)
  refine sq_page hI12 hw (ap_2 (P := 2) (by decide)) (fun M13 hI13 => ?_)
  refine And.intro (by omega) (And.intro (by omega) ?_)
  refine sq_page hI13 hw (ap_0 (P := 2) (by decide)) (fun M14 hI14 => ?_)
  refine And.intro (by omega) ?_
  refine sq_page hI14 hw (ap_0 (P := 2) (by decide)) (fun M15 hI15 => ?_)
  refine sq_page hI15 hw (ap_1 (P := 2) (by decide)) (fun M16 hI16 => ?_)
  refine And.intro (fun _ => ?_) (fun c => absurd c (by omega))
  refine And.intro (by decide) ?_
  refine And.intro (fun _ => ?_) (fun c => absurd c (by decide))
  -- behind the pages
  refine sp_L_low (by decide) ?_
  have hlo := ql_b (v := mv_mulw y 7) (n := 360) (by decide)
  refine sq_module hI16 hw (am_at (m := (ql (mv_mulw y 7) 360).toNat) (by omega) (by omega)) (fun M17 hI17 => ?_)
  refine And.intro (fun c => absurd c (by omega)) (fun _ => ?_)
  refine sq_count hI17 hw (r := (qg_cnt (qg_lay F.1.1).1 0 1 360 : Int)) rfl (fun M18 hI18 => ?_)
  refine And.intro (fun c => absurd rfl c) (fun _ => ?_)
  refine And.intro (fun c => absurd (by omega) c) (fun _ => ?_)
  refine sq_count hI18 hw (r := qg_unrest F.1.1.2.1) rfl (fun M19 hI19 => ?_)
  refine And.intro (fun c => absurd (by omega) c) (fun _ => ?_)
  refine sq_count hI19 hw (r := (qg_sum (qg_ov F.1.1) F.1.1.1.length : Int)) rfl (fun M20 hI20 => ?_)
  refine And.intro (fun c => absurd rfl c) (fun _ => ?_)
  refine sq_count hI20 hw (r := (qg_sum (qg_ju F.1.1) F.1.1.1.length : Int)) rfl (fun M21 hI21 => ?_)
  refine And.intro (fun c => absurd rfl c) (fun _ => ?_)
  refine sq_count hI21 hw (r := (qg_placed F.1.1.2.1 : Int)) rfl (fun M22 hI22 => ?_)
  refine And.intro (fun c => absurd rfl c) (fun _ => ?_)
  refine sq_troubled hI22 hw (r := (qg_trF F.1.1 F.1.1.2.1.length : Int)) rfl (fun M23 hI23 => ?_)
  refine And.intro (fun c => absurd rfl c) (fun _ => ?_)
  exact And.intro (Or.inr rfl) (h M23 hI23)
end RF
set_option maxRecDepth 100000 in
/-- isRight answers true in every state that can be reached -/
theorem sp_L_isRight {F : qg_F} {y : Int} {M : mv_M} {Q : mv_R} (hX : qr_X M F) (hw : qg_wF F) (hd : pz_dj F.1.1.2.1) (h : ∀ M', qr_X M' F → mv_of1 qf_X M M' → Q (some (.inl 1)) M') : E_L_isRight [.inr (10, 0), .inl y] M Q := by
  have hC := hw.1.1.1
  have h6 := hC.1
  have htk := (pz_tk_le hC (Nat.le_refl F.1.1.1.length)).1
  refine ev_L_isRight ?_
  refine go_L_isRight [17] 60 ?_
  refine sq_count (r := (F.1.1.1.length : Int)) (M0 := M) ⟨hX, mv_of1.rf⟩ hw rfl (fun M1 hI1 => ?_)
  refine rw_articles hw (fun M2 hI2 x6 x7 x8 x9 x10 x11 x12 x13 => ?_) 0 M1 (Nat.zero_le _) hI1 _ _ _ _ _ _ _ _ _ _ rfl rfl rfl
  refine go_L_isRight [247] 60 ?_
  refine rw_quotes hw hd (T := pz_tk F.1.1 F.1.1.1.length) (by omega) (fun M3 hI3 x8 x9 x10 x11 x12 x13 => ?_) 0 M2 (Nat.zero_le _) hI2 _ _ _ _ _ _ _ _ ?_ rfl rfl
  · exact rw_final hw hd (fun M' hI' => h M' hI'.1 hI'.2) hI3 (by rw [pz_taken hC hw.1.2.1 hd]; rfl) rfl rfl rfl rfl _ _ _ _ _ _
  · show ((pz_tk F.1.1 F.1.1.1.length : Nat) : Int) = ((pz_tk F.1.1 F.1.1.1.length + 0 : Nat) : Int)
    rfl
