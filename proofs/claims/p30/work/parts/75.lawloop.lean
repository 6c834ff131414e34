/-! The law: its eleven rounds. -/
section SO
variable {F G : qg_F} {M : mv_M} {Q : mv_R} {r : Int}
theorem so_addArticle {a b : Int} (hX : qr_X M F) (hw : qg_wF F) (hr : op_addArticle F a b = (r, G)) (h : ∀ M', qr_X M' G → Q (some (.inl r)) M') : E_X10_addArticle [.inr (10, 0), .inl a, .inl b] M Q :=
  sp_X10_addArticle hX hw (fun M' h1 _ => by rw [hr] at h1; rw [hr]; exact h M' h1)
theorem so_setRule {a b : Int} (hX : qr_X M F) (hw : qg_wF F) (hr : op_setRule F a b = (r, G)) (h : ∀ M', qr_X M' G → Q (some (.inl r)) M') : E_X10_setRule [.inr (10, 0), .inl a, .inl b] M Q :=
  sp_X10_setRule hX hw (fun M' h1 _ => by rw [hr] at h1; rw [hr]; exact h M' h1)
theorem so_take {a : Int} (hX : qr_X M F) (hw : qg_wF F) (hr : op_take F a = (r, G)) (h : ∀ M', qr_X M' G → Q (some (.inl r)) M') : E_X10_take [.inr (10, 0), .inl a] M Q :=
  sp_X10_take hX hw (fun M' h1 _ => by rw [hr] at h1; rw [hr]; exact h M' h1)
theorem so_place {a b c d : Int} (hX : qr_X M F) (hw : qg_wF F) (hr : op_place F a b c d = (r, G)) (h : ∀ M', qr_X M' G → Q (some (.inl r)) M') : E_X10_place [.inr (10, 0), .inl a, .inl b, .inl c, .inl d] M Q :=
  sp_X10_place hX hw (fun M' h1 _ => by rw [hr] at h1; rw [hr]; exact h M' h1)
theorem so_undo (hX : qr_X M F) (hw : qg_wF F) (h : ∀ M', qr_X M' (op_undo F).2 → Q (some (.inl (op_undo F).1)) M') : E_X10_undo [.inr (10, 0)] M Q :=
  sp_X10_undo hX hw (fun M' h1 _ => h M' h1)
theorem so_load (hX : qr_X M F) (hw : qg_wF F) (h : ∀ M', qr_X M' (op_load F).2 → Q (some (.inl (op_load F).1)) M') : E_X10_load [.inr (10, 0)] M Q :=
  sp_X10_load hX hw (fun M' h1 _ => h M' h1)
theorem sd_digest {Q : Option mw_V → mv_M → Prop} (hX : qr_X M F) (hw : qg_wF F) {z : Int64} (hz : dg F = z) (h : ∀ M', qr_X M' F → Q (some (.inr (.long z))) M') : mw_Ev 8 yL_digest cL_digest 5 (some .long) [.inr (10, 0)] M Q := by
  subst hz
  exact sp_L_digest hX hw (fun M' h1 _ => h M' h1)
end SO
abbrev lL (b : Nat) (x2 x3 x4 x5 x6 x7 x8 x9 x10 x11 : Option mw_V) : mw_L := [some (.inr (.ref b)), some (.inl (.inr (10, 0))), x2, x3, x4, x5, x6, x7, x8, x9, x10, x11]
abbrev sD (h : Int64) : Option mw_V := some (.inr (.long h))
abbrev lw_go (X : mw_X) (b : Nat) (E : List mw_V → mv_M → Prop) : Prop := ∀ (cut : List Nat) (n pc : Nat) (L : mw_L) (st : List mw_V) (M : mv_M), mw_run (tb_L_law b E) cut (mw_G X) n pc L st M → mw_G X pc L st M
section LL
variable {X : mw_X} {b : Nat} {E : List mw_V → mv_M → Prop}
set_option maxRecDepth 100000 in
/-- undone, and done again -/
theorem lw_162 (go : lw_go X b E) {F : qg_F} {y : Int} (hw : qg_wF F) (hp : pz_F F) {x2 x6 x7 x8 : Option mw_V} {z : Int} (hx2 : x2 = sW z) {M1 : mv_M} (hX : qr_X M1 (qa_act F y).2)
    (hend : ∀ M' F', qr_X M' F' → qg_wF F' → pz_F F' → ∀ x10 x11, mw_G X 219 (lL b x2 (sW y) (sD (dg F)) none x6 x7 x8 (sW (qa_act F y).1) x10 x11) [] M') (x10 x11 : Option mw_V) :
    mw_G X 162 (lL b x2 (sW y) (sD (dg F)) none x6 x7 x8 (sW (qa_act F y).1) x10 x11) [] M1 := by
  subst hx2
  have hw2 := qa_wf hw y
  have hp2 := qa_pz hw hp y
  refine go [219] 60 _ _ _ _ ?_
  refine And.intro (fun _ => hend M1 _ hX hw2 hp2 _ _) (fun c => ?_)
  refine And.intro (fun _ => hend M1 _ hX hw2 hp2 _ _) (fun _ => ?_)
  refine sd_digest hX hw2 rfl (fun M2 hX2 => ?_)
  have hu := qa_undo c
  have hw3 := wf_undo hw2
  have hp3 := pz_undo hp2
  have hs := qa_same (F := (op_undo (qa_act F y).2).2) (G := F) hu.2 y
  refine so_undo hX2 hw2 (fun M3 hX3 => ?_)
  refine And.intro (fun c2 => absurd c2 (by omega)) (fun _ => ?_)
  refine sd_digest hX3 hw3 (dg_same hu.2) (fun M4 hX4 => ?_)
  refine And.intro rfl ?_
  refine And.intro (fun c2 => absurd rfl c2) (fun _ => ?_)
  refine sp_L_act hX4 hw3 (fun M5 hX5 _ => ?_)
  have hw5 := qa_wf hw3 y
  have hp5 := qa_pz hw3 hp3 y
  refine And.intro (fun c2 => absurd hs.1 c2) (fun _ => ?_)
  refine sd_digest hX5 hw5 (dg_same hs.2) (fun M6 hX6 => ?_)
  refine And.intro rfl ?_
  exact And.intro (fun _ => hend M6 _ hX6 hw5 hp5 _ _) (fun c2 => absurd rfl c2)
set_option maxRecDepth 100000 in
/-- what isRight says, and whether a place was taken as it was announced -/
theorem lw_115 (go : lw_go X b E) {F : qg_F} {y : Int} (hw : qg_wF F) (hp : pz_F F) {x2 x6 : Option mw_V} {z z8 : Int} (hx2 : x2 = sW z) {M1 : mv_M} (hX : qr_X M1 (qa_act F y).2) (h8 : mv_and y 15 = 9 ∨ mv_and y 15 = 10 → (z8 = 0 ↔ 0 ≤ (qa_act F y).1))
    (hend : ∀ M' F', qr_X M' F' → qg_wF F' → pz_F F' → ∀ x10 x11, mw_G X 219 (lL b x2 (sW y) (sD (dg F)) none x6 (sW (mv_and y 15)) (sW z8) (sW (qa_act F y).1) x10 x11) [] M') (x10 x11 : Option mw_V) :
    mw_G X 115 (lL b x2 (sW y) (sD (dg F)) none x6 (sW (mv_and y 15)) (sW z8) (sW (qa_act F y).1) x10 x11) [] M1 := by
  have hw2 := qa_wf hw y
  have hp2 := qa_pz hw hp y
  refine go [137, 162] 60 _ _ _ _ ?_
  refine sp_L_isRight hX hw2 hp2.1.1 (fun M2 hX2 _ => ?_)
  have at162 : ∀ x10 x11, mw_G X 162 (lL b x2 (sW y) (sD (dg F)) none x6 (sW (mv_and y 15)) (sW z8) (sW (qa_act F y).1) x10 x11) [] M2 := lw_162 go hw hp hx2 hX2 hend
  have at137 : (z8 = 0 ↔ 0 ≤ (qa_act F y).1) → mw_G X 137 (lL b x2 (sW y) (sD (dg F)) none x6 (sW (mv_and y 15)) (sW z8) (sW (qa_act F y).1) x10 x11) [] M2 := fun h => by
    refine go [162] 60 _ _ _ _ ?_
    refine And.intro (fun c => ?_) (fun c => ?_)
    · refine And.intro (fun c2 => ?_) (fun c2 => absurd (h.mpr c2) c)
      exact And.intro (fun _ => at162 _ _) (fun c3 => absurd rfl c3)
    · refine And.intro (fun c2 => absurd (h.mp c) (by omega)) (fun c2 => ?_)
      exact And.intro (fun _ => at162 _ _) (fun c3 => absurd rfl c3)
  refine And.intro (fun c => absurd c (by decide)) (fun _ => ?_)
  refine And.intro (fun c => at137 (h8 (Or.inl c))) (fun c => ?_)
  exact And.intro (fun _ => at162 _ _) (fun c2 => at137 (h8 (Or.inr c2)))
set_option maxRecDepth 100000 in
theorem lw_93 (go : lw_go X b E) {F : qg_F} {y : Int} (hw : qg_wF F) (hp : pz_F F) {x2 x6 : Option mw_V} {z z8 : Int} (hx2 : x2 = sW z) {M1 : mv_M} (hX : qr_X M1 F) (h8 : mv_and y 15 = 9 ∨ mv_and y 15 = 10 → z8 = an_refusal F (ql (mv_shr y 4) 5) (ql (mv_shr y 6) 3) (ql (mv_shr y 5) 6) (ql (mv_shr y 3) 20))
    (hend : ∀ M' F', qr_X M' F' → qg_wF F' → pz_F F' → ∀ x9 x10 x11, mw_G X 219 (lL b x2 (sW y) (sD (dg F)) none x6 (sW (mv_and y 15)) (sW z8) x9 x10 x11) [] M') (x9 x10 x11 : Option mw_V) :
    mw_G X 93 (lL b x2 (sW y) (sD (dg F)) none x6 (sW (mv_and y 15)) (sW z8) x9 x10 x11) [] M1 := by
  refine go [115] 60 _ _ _ _ ?_
  refine sp_L_act hX hw (fun M2 hX2 _ => ?_)
  have h9 : mv_and y 15 = 9 ∨ mv_and y 15 = 10 → (z8 = 0 ↔ 0 ≤ (qa_act F y).1) := fun hk => by rw [h8 hk]; exact qa_reason hk
  have at115 : ∀ M', qr_X M' (qa_act F y).2 → mw_G X 115 (lL b x2 (sW y) (sD (dg F)) none x6 (sW (mv_and y 15)) (sW z8) (sW (qa_act F y).1) x10 x11) [] M' := fun M' hX' => lw_115 go hw hp hx2 hX' h9 (fun M' F' g1 g2 g3 x10 x11 => hend M' F' g1 g2 g3 _ x10 x11) x10 x11
  refine And.intro (fun _ => at115 M2 hX2) (fun c => ?_)
  have hw2 := qa_wf hw y
  refine sd_digest hX2 hw2 (by rw [qa_neg c]) (fun M3 hX3 => ?_)
  refine And.intro rfl ?_
  exact And.intro (fun c2 => absurd rfl c2) (fun _ => at115 M3 hX3)
set_option maxRecDepth 100000 in
/-- one round -/
theorem lw_round (go : lw_go X b E) {F : qg_F} (hw : qg_wF F) (hp : pz_F F) {t : Nat} (ht : t < 11) {M1 : mv_M} (hX : qr_X M1 F)
    (hend : ∀ M' F', qr_X M' F' → qg_wF F' → pz_F F' → ∀ x3 x4 x5 x6 x7 x8 x9 x10 x11, mw_G X 10 (lL b (sW (t + 1 : Nat)) x3 x4 x5 x6 x7 x8 x9 x10 x11) [] M') (x3 x4 x5 x6 x7 x8 x9 x10 x11 : Option mw_V) :
    mw_G X 16 (lL b (sW t) x3 x4 x5 x6 x7 x8 x9 x10 x11) [] M1 := by
  refine go [53, 93] 60 _ _ _ _ ?_
  refine And.intro rfl (And.intro (by omega) (fun y hy => ?_))
  refine sd_digest hX hw rfl (fun M2 hX2 => ?_)
  have at93 : ∀ M', qr_X M' F → ∀ z8 : Int, (mv_and y 15 = 9 ∨ mv_and y 15 = 10 → z8 = an_refusal F (ql (mv_shr y 4) 5) (ql (mv_shr y 6) 3) (ql (mv_shr y 5) 6) (ql (mv_shr y 3) 20)) →
      mw_G X 93 (lL b (sW t) (sW y) (sD (dg F)) none (sW (mv_shr y 4)) (sW (mv_and y 15)) (sW z8) x9 x10 x11) [] M' := fun M' hX' z8 h8 =>
    lw_93 go hw hp rfl hX' h8 (fun M' F' g1 g2 g3 x9 x10 x11 => by
      refine go [10] 60 _ _ _ _ ?_
      refine And.intro (by omega) ?_
      exact hend M' F' g1 g2 g3 _ _ _ _ _ _ _ _ _) _ _ _
  have at53 : mw_G X 53 (lL b (sW t) (sW y) (sD (dg F)) none (sW (mv_shr y 4)) (sW (mv_and y 15)) x8 x9 x10 x11) [] M2 := by
    refine go [93] 60 _ _ _ _ ?_
    refine sp_L_low (by decide) ?_
    refine sp_L_low (by decide) ?_
    refine sp_L_low (by decide) ?_
    refine sp_L_low (by decide) ?_
    refine sq_refusal (M0 := M2) ⟨hX2, mv_of1.rf⟩ hw rfl (fun M3 hI3 => ?_)
    exact at93 M3 hI3.1 _ (fun _ => rfl)
  refine And.intro (fun _ => at53) (fun c => ?_)
  refine And.intro (fun c2 => at93 M2 hX2 0 (fun z => absurd z (by omega))) (fun _ => at53)
set_option maxRecDepth 100000 in
theorem lw_rounds (go : lw_go X b E)
    (hend : ∀ M' F', qr_X M' F' → qg_wF F' → pz_F F' → ∀ x2 x3 x4 x5 x6 x7 x8 x9 x10 x11, mw_G X 225 (lL b x2 x3 x4 x5 x6 x7 x8 x9 x10 x11) [] M') :
    ∀ (t : Nat) (s : mv_M × qg_F), t ≤ 11 → qr_X s.1 s.2 → qg_wF s.2 → pz_F s.2 → ∀ x3 x4 x5 x6 x7 x8 x9 x10 x11, mw_G X 10 (lL b (sW t) x3 x4 x5 x6 x7 x8 x9 x10 x11) [] s.1 := by
  refine mv_loop 11 (fun t s ht ih hX hw hp x3 x4 x5 x6 x7 x8 x9 x10 x11 => ?_)
  refine go [16, 225] 20 _ _ _ _ ?_
  refine And.intro (fun _ => hend _ _ hX hw hp _ _ _ _ _ _ _ _ _ _) (fun c => ?_)
  exact lw_round go hw hp (by omega) hX (fun M' F' g1 g2 g3 => ih (M', F') (by omega) g1 g2 g3) _ _ _ _ _ _ _ _ _
end LL
