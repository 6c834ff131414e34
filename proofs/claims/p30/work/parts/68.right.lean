/-! isRight: the pages, the sums, the whole. -/
section AP
variable {F : qg_F} {P : Nat}
theorem ap_0 (h : P < 3) : an_page F (P : Int) 0 = qg_bal F.1.1.2.1 P := by
  unfold an_page
  rw [if_pos (by omega)]
  rfl
theorem ap_1 (h : P < 3) : an_page F (P : Int) 1 = (qg_cnt (qg_lay F.1.1).1 (120 * P) 21 120 : Int) := by
  unfold an_page
  rw [if_pos (by omega)]
  rfl
theorem ap_2 (h : P < 3) : an_page F (P : Int) 2 = (qg_cnt (qg_lay F.1.1).1 (120 * P) 1 120 : Int) - (qg_cnt (qg_lay F.1.1).1 (120 * P) 21 120 : Int) := by
  unfold an_page
  rw [if_pos (by omega)]
  rfl
end AP
section RF
variable {F : qg_F} {M0 : mv_M} {Q : mv_R}
set_option maxRecDepth 100000 in
/-- one page -/
theorem rw_page (hw : qg_wF F) (hd : pz_dj F.1.1.2.1) {P : Nat} (hP : P < 3) {x1 x2 x3 x4 x5 x6 x7 x11 x12 x13 : Option mv_V} {z8 z9 : Int} (b8 : 0 ≤ z8 ∧ z8 ≤ 1000) (b9 : 0 ≤ z9 ∧ z9 ≤ 1000)
    (hend : ∀ M', pz_I F M0 M' → ∀ y8 y9 : Int, y8 = z8 + (qg_cnt (qg_lay F.1.1).1 (120 * P) 1 120 : Int) → y9 = z9 + qg_bal F.1.1.2.1 P → J_L_isRight Q 493 (rL x1 x2 x3 x4 x5 x6 x7 (sI y8) (sI y9) (sI (P + 1 : Nat)) x11 x12 x13) [] M') {M1 : mv_M} (hI : pz_I F M0 M1) :
    J_L_isRight Q 493 (rL x1 x2 x3 x4 x5 x6 x7 (sI z8) (sI z9) (sI P) x11 x12 x13) [] M1 := by
  have hC := hw.1.1.1
  have l0 := qg_cnt_le (qg_lay F.1.1).1 (120 * P) 1 120
  have m0 := qg_cnt_le (qg_lay F.1.1).1 (120 * P) 21 120
  have a0 := pz_page_cnt hC hw.1.2.1 hd P
  have b0 := pz_bal_le hC P
  have c0 := pz_bal_0 F.1.1.2.1 P
  refine go_L_isRight [493, 556] 60 ?_
  refine And.intro (fun c => absurd c (by omega)) (fun _ => ?_)
  refine sq_page hI hw (ap_1 hP) (fun M2 hI2 => ?_)
  refine sq_page hI2 hw (ap_2 hP) (fun M3 hI3 => ?_)
  refine And.intro (by omega) (And.intro (by omega) ?_)
  refine sq_page hI3 hw (ap_0 hP) (fun M4 hI4 => ?_)
  refine And.intro (by omega) ?_
  refine sq_page hI4 hw (ap_0 hP) (fun M5 hI5 => ?_)
  refine sq_page hI5 hw (ap_1 hP) (fun M6 hI6 => ?_)
  refine And.intro (fun _ => ?_) (fun c => absurd c (by omega))
  refine And.intro (by omega) ?_
  exact hend M6 hI6 _ _ (by omega) rfl
set_option maxRecDepth 100000 in
/-- behind the pages -/
theorem rw_tail (hw : qg_wF F) {y : Int} {x2 : Option mv_V} (h : ∀ M', pz_I F M0 M' → Q (some (.inl 1)) M') {M1 : mv_M} (hI : pz_I F M0 M1) {z8 z9 : Int} (h8 : z8 = (qg_cnt (qg_lay F.1.1).1 0 1 360 : Int)) (h9 : z9 = qg_unrest F.1.1.2.1) (x10 x11 x12 x13 : Option mv_V) :
    J_L_isRight Q 556 (rL (sI y) x2 (sI (qg_cnt (qg_lay F.1.1).1 0 1 360)) (sI (qg_sum (qg_ov F.1.1) F.1.1.1.length : Nat)) (sI (qg_sum (qg_ju F.1.1) F.1.1.1.length : Nat)) (sI (qg_placed F.1.1.2.1)) (sI (qg_trF F.1.1 F.1.1.2.1.length)) (sI z8) (sI z9) x10 x11 x12 x13) [] M1 := by
  subst h8 h9
  have hlo := ql_b (v := mv_mulw y 7) (n := 360) (by decide)
  refine go_L_isRight [] 100 ?_
  refine sp_L_low (by decide) ?_
  refine sq_module hI hw (am_at (m := (ql (mv_mulw y 7) 360).toNat) (by omega) (by omega)) (fun M17 hI17 => ?_)
  refine And.intro (fun c => absurd c (by omega)) (fun _ => ?_)
  refine sq_count hI17 hw (r := (qg_cnt (qg_lay F.1.1).1 0 1 360 : Int)) rfl (fun M18 hI18 => ?_)
  refine And.intro (fun c => absurd rfl c) (fun _ => ?_)
  refine And.intro (fun c => absurd rfl c) (fun _ => ?_)
  refine sq_count hI18 hw (r := qg_unrest F.1.1.2.1) rfl (fun M19 hI19 => ?_)
  refine And.intro (fun c => absurd rfl c) (fun _ => ?_)
  refine sq_count hI19 hw (r := (qg_sum (qg_ov F.1.1) F.1.1.1.length : Int)) rfl (fun M20 hI20 => ?_)
  refine And.intro (fun c => absurd rfl c) (fun _ => ?_)
  refine sq_count hI20 hw (r := (qg_sum (qg_ju F.1.1) F.1.1.1.length : Int)) rfl (fun M21 hI21 => ?_)
  refine And.intro (fun c => absurd rfl c) (fun _ => ?_)
  refine sq_count hI21 hw (r := (qg_placed F.1.1.2.1 : Int)) rfl (fun M22 hI22 => ?_)
  refine And.intro (fun c => absurd rfl c) (fun _ => ?_)
  refine sq_troubled hI22 hw (r := (qg_trF F.1.1 F.1.1.2.1.length : Int)) rfl (fun M23 hI23 => ?_)
  refine And.intro (fun c => absurd rfl c) (fun _ => ?_)
  exact And.intro (Or.inr rfl) (h M23 hI23)
set_option maxRecDepth 100000 in
theorem rw_final (hw : qg_wF F) (hd : pz_dj F.1.1.2.1) {y : Int} {x2 : Option mv_V} (h : ∀ M', pz_I F M0 M' → Q (some (.inl 1)) M') {M1 : mv_M} (hI : pz_I F M0 M1) {z3 z4 z5 z6 z7 : Int} (h3 : z3 = (qg_cnt (qg_lay F.1.1).1 0 1 360 : Int)) (h4 : z4 = (qg_sum (qg_ov F.1.1) F.1.1.1.length : Int)) (h5 : z5 = (qg_sum (qg_ju F.1.1) F.1.1.1.length : Int)) (h6 : z6 = (qg_placed F.1.1.2.1 : Int)) (h7 : z7 = (qg_trF F.1.1 F.1.1.2.1.length : Int)) (x8 x9 x10 x11 x12 x13 : Option mv_V) :
    J_L_isRight Q 484 (rL (sI y) x2 (sI z3) (sI z4) (sI z5) (sI z6) (sI z7) x8 x9 x10 x11 x12 x13) [] M1 := by
  subst h3 h4 h5 h6 h7
  have hC := hw.1.1.1
  have hpg := pz_cnt_pages (qg_lay F.1.1).1 1
  have l0 := qg_cnt_le (qg_lay F.1.1).1 (120 * 0) 1 120
  have l1 := qg_cnt_le (qg_lay F.1.1).1 (120 * 1) 1 120
  have l2 := qg_cnt_le (qg_lay F.1.1).1 (120 * 2) 1 120
  have hb : ∀ P, qg_bal F.1.1.2.1 P ≤ 144 := fun P => (qg_bal_b hC.2.1 (fun q hq => (hC.2.2.2.1 q hq).1)).2
  have b0 := hb 0
  have b1 := hb 1
  have c0 := pz_bal_0 F.1.1.2.1 0
  have c1 := pz_bal_0 F.1.1.2.1 1
  have hu : qg_unrest F.1.1.2.1 = qg_bal F.1.1.2.1 0 + qg_bal F.1.1.2.1 1 + qg_bal F.1.1.2.1 2 := rfl
  refine go_L_isRight [493, 556] 60 ?_
  refine rw_page (P := 0) hw hd (by decide) (by decide) (by decide) (fun M2 hI2 y8 y9 g8 g9 => ?_) hI
  refine rw_page (P := 1) hw hd (by decide) (by omega) (by omega) (fun M3 hI3 u8 u9 k8 k9 => ?_) hI2
  refine rw_page (P := 2) hw hd (by decide) (by omega) (by omega) (fun M4 hI4 w8 w9 n8 n9 => ?_) hI3
  refine go_L_isRight [556] 60 ?_
  refine And.intro (fun _ => ?_) (fun c => absurd c (by decide))
  exact rw_tail hw h hI4 (by omega) (by omega) _ _ _ _
end RF
set_option maxRecDepth 100000 in
/-- isRight answers true in every state that can be reached -/
theorem sp_L_isRight {F : qg_F} {y : Int} {M : mv_M} {Q : mv_R} (hX : qr_X M F) (hw : qg_wF F) (hd : pz_dj F.1.1.2.1) (h : ∀ M', qr_X M' F → mv_of1 qf_X M M' → Q (some (.inl 1)) M') : E_L_isRight [.inr (10, 0), .inl y] M Q := by
  have hC := hw.1.1.1
  have h6 := hC.1
  have htk := (pz_tk_le hC (Nat.le_refl F.1.1.1.length)).1
  refine ev_L_isRight ?_
  refine go_L_isRight [17] 60 ?_
  refine sq_count (r := (F.1.1.1.length : Int)) (M0 := M) ⟨hX, mv_of1.rf⟩ hw rfl (fun M1 hI1 => ?_)
  refine rw_articles hw (fun M2 hI2 x6 x7 x8 x9 x10 x11 x12 x13 => ?_) 0 M1 (Nat.zero_le _) hI1 _ _ _ _ _ _ _ _ _ _ rfl rfl rfl
  refine go_L_isRight [247] 60 ?_
  refine rw_quotes hw hd (T := pz_tk F.1.1 F.1.1.1.length) (by omega) (fun M3 hI3 x8 x9 x10 x11 x12 x13 => ?_) 0 M2 (Nat.zero_le _) hI2 _ _ _ _ _ _ _ _ ?_ rfl rfl
  · exact rw_final hw hd (fun M' hI' => h M' hI'.1 hI'.2) hI3 (by rw [pz_taken hC hw.1.2.1 hd]; rfl) rfl rfl rfl rfl _ _ _ _ _ _
  · show ((pz_tk F.1.1 F.1.1.1.length : Nat) : Int) = ((pz_tk F.1.1 F.1.1.1.length + 0 : Nat) : Int)
    rfl
