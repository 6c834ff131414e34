/-! digest hangs on the state alone. -/
theorem ar_2 {F : qg_F} {k : Nat} {A : qg_A} (h : F.1.1.1[k]? = some A) : an_article F (k : Int) 2 = (A.2.2.length : Int) := by unfold an_article; rw [an_art h]; rfl
theorem sq_sentence {F : qg_F} {M0 M : mv_M} {Q : mv_R} {r a b w : Int} (hI : pz_I F M0 M) (hw : qg_wF F) (hr : an_sentence F a b w = r) (h : ∀ M', pz_I F M0 M' → Q (some (.inl r)) M') : E_X10_sentence [.inr (10, 0), .inl a, .inl b, .inl w] M Q := by
  subst hr
  exact sp_X10_sentence hI.1 hw (fun M' h1 h2 => h M' ⟨h1, hI.2.tr h2⟩)
def dg_m (h : Int64) (z : Int) : Int64 := 31 * h + (Int32.ofInt z).toInt64
def dg_W (f : Nat → Int) (h : Int64) : Nat → Int64
  | 0 => h
  | n + 1 => dg_m (dg_W f h n) (f n)
def dg_S (f : Nat → Int → Int) (h : Int64) : Nat → Int64
  | 0 => h
  | n + 1 => dg_m (dg_m (dg_S f h n) (f n 0)) (f n 1)
def dg_nS (F : qg_F) (k : Nat) : Nat := (F.1.1.1.getD k (0, 0, [])).2.2.length
def dg_P (F : qg_F) (h : Int64) : Nat → Int64
  | 0 => h
  | k + 1 => dg_S (fun i w => an_sentence F (k : Int) (i : Int) w) (dg_W (fun w => an_article F (k : Int) (w : Int)) (dg_P F h k) 7) (dg_nS F k)
def dg_Q (F : qg_F) (h : Int64) : Nat → Int64
  | 0 => h
  | k + 1 => dg_W (fun w => an_quote F (k : Int) (w : Int)) (dg_Q F h k) 8
/-- what digest answers -/
def dg (F : qg_F) : Int64 := dg_Q F (dg_P F (dg_W (fun w => an_count F (w : Int)) 7 11) F.1.1.1.length) F.1.1.2.1.length
theorem dg_W_eq {f g : Nat → Int} {h : Int64} : ∀ n, (∀ i, i < n → f i = g i) → dg_W f h n = dg_W g h n
  | 0, _ => rfl
  | n + 1, e => by
    show dg_m (dg_W f h n) (f n) = dg_m (dg_W g h n) (g n)
    rw [dg_W_eq n (fun i hi => e i (by omega)), e n (by omega)]
theorem dg_same {F G : qg_F} (h : F.1 = G.1) : dg F = dg G := by
  obtain ⟨S, H, X⟩ := F
  obtain ⟨S', H', X'⟩ := G
  have h : S = S' := h
  subst h
  have h0 : ∀ z, dg_W (fun w => an_count (S, H, X) (w : Int)) z 11 = dg_W (fun w => an_count (S, H', X') (w : Int)) z 11 := fun z => dg_W_eq 11 (fun i hi => by
    rcases (show i = 0 ∨ i = 1 ∨ i = 2 ∨ i = 3 ∨ i = 4 ∨ i = 5 ∨ i = 6 ∨ i = 7 ∨ i = 8 ∨ i = 9 ∨ i = 10 by omega) with rfl | rfl | rfl | rfl | rfl | rfl | rfl | rfl | rfl | rfl | rfl <;> rfl)
  have h1 : ∀ z k, dg_P (S, H, X) z k = dg_P (S, H', X') z k := fun z k => by
    induction k with
    | zero => rfl
    | succ k ih =>
      show dg_S _ (dg_W _ (dg_P (S, H, X) z k) 7) _ = dg_S _ (dg_W _ (dg_P (S, H', X') z k) 7) _
      rw [ih]
      rfl
  have h2 : ∀ z k, dg_Q (S, H, X) z k = dg_Q (S, H', X') z k := fun z k => by
    induction k with
    | zero => rfl
    | succ k ih =>
      show dg_W _ (dg_Q (S, H, X) z k) 8 = dg_W _ (dg_Q (S, H', X') z k) 8
      rw [ih]
      rfl
  unfold dg
  rw [h0, h1, h2]
abbrev dL (h : Int64) (x3 x4 : Option mw_V) : mw_L := [some (.inl (.inr (10, 0))), some (.inr (.long h)), none, x3, x4]
abbrev sW (z : Int) : Option mw_V := some (.inl (.inl z))
section DG
variable {X : mw_X} {E : List mw_V → mv_M → Prop} {F : qg_F} {M0 : mv_M}
set_option maxRecDepth 100000 in
theorem dw_counts (go : ∀ (cut : List Nat) (n pc : Nat) (L : mw_L) (st : List mw_V) (M : mv_M), mw_run (tb_L_digest E) cut (mw_G X) n pc L st M → mw_G X pc L st M) (hw : qg_wF F)
    (hend : ∀ M', pz_I F M0 M' → ∀ x4, mw_G X 33 (dL (dg_W (fun w => an_count F (w : Int)) 7 11) (sW 0) x4) [] M') :
    ∀ (i : Nat) (M1 : mv_M), i ≤ 11 → pz_I F M0 M1 → ∀ x4, mw_G X 6 (dL (dg_W (fun w => an_count F (w : Int)) 7 i) (sW i) x4) [] M1 := by
  refine mv_loop 11 (fun i M1 hi ih hI x4 => ?_)
  refine go [6, 33] 40 _ _ _ _ ?_
  refine And.intro (fun c => ?_) (fun c => ?_)
  · have e : i = 11 := by omega
    subst e
    exact hend M1 hI x4
  · refine sq_count hI hw rfl (fun M2 hI2 => ?_)
    refine And.intro (by omega) ?_
    exact ih M2 (by omega) hI2 x4
set_option maxRecDepth 100000 in
theorem dw_article (go : ∀ (cut : List Nat) (n pc : Nat) (L : mw_L) (st : List mw_V) (M : mv_M), mw_run (tb_L_digest E) cut (mw_G X) n pc L st M → mw_G X pc L st M) (hw : qg_wF F) {k : Nat} {h : Int64}
    (hend : ∀ M', pz_I F M0 M' → mw_G X 76 (dL (dg_W (fun w => an_article F (k : Int) (w : Int)) h 7) (sW k) (sW 0)) [] M') :
    ∀ (i : Nat) (M1 : mv_M), i ≤ 7 → pz_I F M0 M1 → mw_G X 45 (dL (dg_W (fun w => an_article F (k : Int) (w : Int)) h i) (sW k) (sW i)) [] M1 := by
  refine mv_loop 7 (fun i M1 hi ih hI => ?_)
  refine go [45, 76] 40 _ _ _ _ ?_
  refine And.intro (fun c => ?_) (fun c => ?_)
  · have e : i = 7 := by omega
    subst e
    exact hend M1 hI
  · refine sq_article hI hw rfl (fun M2 hI2 => ?_)
    refine And.intro (by omega) ?_
    exact ih M2 (by omega) hI2
set_option maxRecDepth 100000 in
theorem dw_sentences (go : ∀ (cut : List Nat) (n pc : Nat) (L : mw_L) (st : List mw_V) (M : mv_M), mw_run (tb_L_digest E) cut (mw_G X) n pc L st M → mw_G X pc L st M) (hw : qg_wF F) {k : Nat} {A : qg_A} (hA : F.1.1.1[k]? = some A) {h : Int64}
    (hend : ∀ M', pz_I F M0 M' → ∀ x4, mw_G X 33 (dL (dg_S (fun i w => an_sentence F (k : Int) (i : Int) w) h (dg_nS F k)) (sW (k + 1 : Nat)) x4) [] M') :
    ∀ (i : Nat) (M1 : mv_M), i ≤ dg_nS F k → pz_I F M0 M1 → mw_G X 76 (dL (dg_S (fun i w => an_sentence F (k : Int) (i : Int) w) h i) (sW k) (sW i)) [] M1 := by
  have h6 := hw.1.1.1.1
  have hk := (List.getElem?_eq_some_iff.mp hA).1
  have hn : dg_nS F k = A.2.2.length := by
    unfold dg_nS
    rw [List.getD_eq_getElem?_getD, hA]
    rfl
  have hn8 := (hw.1.1.1.2.2.1 A (List.mem_of_getElem? hA)).2.2.2.1
  refine mv_loop (dg_nS F k) (fun i M1 hi ih hI => ?_)
  refine go [33, 76] 60 _ _ _ _ ?_
  refine sq_article hI hw (ar_2 hA) (fun M2 hI2 => ?_)
  refine And.intro (fun c => ?_) (fun c => ?_)
  · have e : i = dg_nS F k := by omega
    subst e
    refine And.intro (by omega) ?_
    exact hend M2 hI2 _
  · refine sq_sentence hI2 hw rfl (fun M3 hI3 => ?_)
    refine sq_sentence hI3 hw rfl (fun M4 hI4 => ?_)
    refine And.intro (by omega) ?_
    exact ih M4 (by omega) hI4
set_option maxRecDepth 100000 in
theorem dw_articles (go : ∀ (cut : List Nat) (n pc : Nat) (L : mw_L) (st : List mw_V) (M : mv_M), mw_run (tb_L_digest E) cut (mw_G X) n pc L st M → mw_G X pc L st M) (hw : qg_wF F) {h : Int64}
    (hend : ∀ M', pz_I F M0 M' → ∀ x4, mw_G X 133 (dL (dg_P F h F.1.1.1.length) (sW 0) x4) [] M') :
    ∀ (k : Nat) (M1 : mv_M), k ≤ F.1.1.1.length → pz_I F M0 M1 → ∀ x4, mw_G X 33 (dL (dg_P F h k) (sW k) x4) [] M1 := by
  refine mv_loop F.1.1.1.length (fun k M1 hk0 ih hI x4 => ?_)
  refine go [33, 45, 133] 40 _ _ _ _ ?_
  refine sq_count hI hw (r := (F.1.1.1.length : Int)) rfl (fun M2 hI2 => ?_)
  refine And.intro (fun c => ?_) (fun c => ?_)
  · have e : k = F.1.1.1.length := by omega
    subst e
    exact hend M2 hI2 x4
  · obtain ⟨A, hA⟩ := qg_some (show k < F.1.1.1.length by omega)
    exact dw_article go hw (fun M3 hI3 => dw_sentences go hw hA (fun M4 hI4 x4 => ih M4 (by omega) hI4 x4) 0 M3 (Nat.zero_le _) hI3) 0 M2 (Nat.zero_le _) hI2
set_option maxRecDepth 100000 in
theorem dw_quote (go : ∀ (cut : List Nat) (n pc : Nat) (L : mw_L) (st : List mw_V) (M : mv_M), mw_run (tb_L_digest E) cut (mw_G X) n pc L st M → mw_G X pc L st M) (hw : qg_wF F) {k : Nat} (hk : k < F.1.1.2.1.length) {h : Int64}
    (hend : ∀ M', pz_I F M0 M' → ∀ x4, mw_G X 133 (dL (dg_W (fun w => an_quote F (k : Int) (w : Int)) h 8) (sW (k + 1 : Nat)) x4) [] M') :
    ∀ (i : Nat) (M1 : mv_M), i ≤ 8 → pz_I F M0 M1 → mw_G X 145 (dL (dg_W (fun w => an_quote F (k : Int) (w : Int)) h i) (sW k) (sW i)) [] M1 := by
  have h8 := hw.1.1.1.2.1
  refine mv_loop 8 (fun i M1 hi ih hI => ?_)
  refine go [133, 145] 40 _ _ _ _ ?_
  refine And.intro (fun c => ?_) (fun c => ?_)
  · have e : i = 8 := by omega
    subst e
    refine And.intro (by omega) ?_
    exact hend M1 hI _
  · refine sq_quote hI hw rfl (fun M2 hI2 => ?_)
    refine And.intro (by omega) ?_
    exact ih M2 (by omega) hI2
set_option maxRecDepth 100000 in
theorem dw_quotes (go : ∀ (cut : List Nat) (n pc : Nat) (L : mw_L) (st : List mw_V) (M : mv_M), mw_run (tb_L_digest E) cut (mw_G X) n pc L st M → mw_G X pc L st M) (hw : qg_wF F) {h : Int64}
    (hend : ∀ M', pz_I F M0 M' → E [.inr (.long (dg_Q F h F.1.1.2.1.length))] M') :
    ∀ (k : Nat) (M1 : mv_M), k ≤ F.1.1.2.1.length → pz_I F M0 M1 → ∀ x4, mw_G X 133 (dL (dg_Q F h k) (sW k) x4) [] M1 := by
  refine mv_loop F.1.1.2.1.length (fun k M1 hk0 ih hI x4 => ?_)
  refine go [133, 145] 40 _ _ _ _ ?_
  refine sq_count hI hw (r := (F.1.1.2.1.length : Int)) rfl (fun M2 hI2 => ?_)
  refine And.intro (fun c => ?_) (fun c => ?_)
  · have e : k = F.1.1.2.1.length := by omega
    subst e
    exact hend M2 hI2
  · exact dw_quote go hw (by omega) (fun M3 hI3 x4 => ih M3 (by omega) hI3 x4) 0 M2 (Nat.zero_le _) hI2
set_option maxRecDepth 100000 in
theorem dw_all (go : ∀ (cut : List Nat) (n pc : Nat) (L : mw_L) (st : List mw_V) (M : mv_M), mw_run (tb_L_digest E) cut (mw_G X) n pc L st M → mw_G X pc L st M) (hw : qg_wF F) {M1 : mv_M} (hI : pz_I F M0 M1)
    (hend : ∀ M', pz_I F M0 M' → E [.inr (.long (dg F))] M') : mw_G X 0 [some (.inl (.inr (10, 0))), none, none, none, none] [] M1 := by
  refine go [6] 40 _ _ _ _ ?_
  exact dw_counts go hw (fun M2 hI2 x4 => dw_articles go hw (fun M3 hI3 x4 => dw_quotes go hw hend 0 M3 (Nat.zero_le _) hI3 x4) 0 M2 (Nat.zero_le _) hI2 x4) 0 M1 (Nat.zero_le _) hI none
end DG
set_option maxRecDepth 100000 in
/-- digest -/
theorem sp_L_digest {F : qg_F} {M : mv_M} {Q : Option mw_V → mv_M → Prop} (hX : qr_X M F) (hw : qg_wF F) (h : ∀ M', qr_X M' F → mv_of1 qf_X M M' → Q (some (.inr (.long (dg F)))) M') : mw_Ev 8 yL_digest cL_digest 5 (some .long) [.inr (10, 0)] M Q := by
  intro l ad D cA hso hM
  refine Met.ofW (cc := cL_digest) (maxL := 5) (ret := some .long) (by decide +kernel) rfl ?_
  intro p e s m args below meth c s₁ B hml hv
  obtain ⟨rfl, hP, hD, hK, hN⟩ := hv
  have hts := atoms_spec (ws := Cond.code yL_digest cL_digest 5 (some .long) :: mv_tb) B.pre
  have hl := lv_entry ([.ref (ad 10 0)]) (n := 5) (Nat.le_of_ble_eq_true rfl)
  have e0 : (([.inr (10, 0)] : List mv_V).map (mv_tr ad)) = [.ref (ad 10 0)] := rfl
  rw [e0, lg_entry_eq]
  generalize (lg_sl ([.ref (ad 10 0)]) ++ List.replicate (5 - (lg_sl ([.ref (ad 10 0)])).length) Slot.unset).toArray = ls at hl ⊢
  have hl : lv_has ls 5 [(0, .ref (ad 10 0))] := hl
  have hCx : mw_Cx (p, l, e, mv_rm 8, s, m, ([.ref (ad 10 0)] : List Value).toArray, below, meth, c, ad, D, cA, mv_A ad, 5, 0, 0, MQ below (mw_Qc ad D cA Q) ([.ref (ad 10 0)] : List Value).toArray s 0 0 (mv_A ad), cL_digest, RL) :=
    ⟨B.exec, B.bytes, hml, findClass_of_methodNamed B.named, fun w hw => hts w (List.mem_cons_of_mem _ hw), hK, hN, fun M' => mv_D_any hD, fun q hq => hq⟩
  have hts2 := ts_L_digest (E := fun st M' => ∃ z, st = [.inr (.long z)] ∧ Q (some (.inr (.long z))) M') hCx rfl rfl (fun lv mxL h1 h2 => ⟨by show lv + 1 + 1 ≤ 8 + 1; omega, by show 8 + (mxL + 11) + (40 + 30 * lv) ≤ 40 + 30 * 8; omega, Nat.le_refl _, Nat.le_refl _⟩) (fun L st M' hE => by
    obtain ⟨z, rfl, hq⟩ := hE
    intro H locs ls S
    exact W.lret B.exec B.bytes B.returns (fun t ht hW => ⟨⟨some (.inr (.long z)), M', rfl, hq, fun w hw => by cases hw; trivial, S.2.2.2.2.2, by rw [ht]; exact S.1⟩, S.2.1.F ht⟩) S.2.1.2.2 dL_digest_180 B.notSynchronized)
  have hG := dw_all (F := F) (M0 := M) (M1 := M) (fun cut n pc L st M' => mw_run_G (cut := cut) hts2 n pc L st M') hw ⟨hX, mv_of1.rf⟩ (fun M' hI' => ⟨dg F, rfl, h M' hI'.1 hI'.2⟩)
  refine hG s.heap [] ls ⟨hP, va_S.rf, ⟨hl, by decide⟩, fun i v hv => ?_, (fun v hv => by cases hv), hM⟩
  match i, hv with
  | 0, hv =>
    have hv : (.inl (.inr (10, 0)) : mw_V) = v := Option.some.inj (Option.some.inj hv)
    subst hv
    exact ⟨by decide, by decide⟩
  | 1, hv => exact absurd (Option.some.inj hv) (by simp)
  | 2, hv => exact absurd (Option.some.inj hv) (by simp)
  | 3, hv => exact absurd (Option.some.inj hv) (by simp)
  | 4, hv => exact absurd (Option.some.inj hv) (by simp)
  | i + 5, hv => simp at hv
