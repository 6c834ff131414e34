/-! isRight: the lines of the articles. -/
abbrev rL (x1 x2 x3 x4 x5 x6 x7 x8 x9 x10 x11 x12 x13 : Option mv_V) : mv_L := [some (.inr (10, 0)), x1, x2, x3, x4, x5, x6, x7, x8, x9, x10, x11, x12, x13]
abbrev sI (z : Int) : Option mv_V := some (.inl z)
/-- the module of the line before the line i; what lies ahead of the start -/
def pz_last (s : Nat) (ls : List Nat) : Nat → Int
  | 0 => (s : Int) - 1
  | i + 1 => (ls.getD i 0 : Int)
theorem pz_last_at {s : Nat} {ls : List Nat} {i m : Nat} (h : ls[i]? = some m) : pz_last s ls (i + 1) = (m : Int) := by
  show ((ls.getD i 0 : Nat) : Int) = _
  rw [List.getD_eq_getElem?_getD, h]
  rfl
theorem pz_last_lt {s : Nat} {ls : List Nat} (hp : ls.Pairwise (· < ·)) (hs : ∀ m ∈ ls, s ≤ m) : ∀ {i m : Nat}, ls[i]? = some m → pz_last s ls i < (m : Int)
  | 0, m, h => by
    have := hs m (List.mem_of_getElem? h)
    show (s : Int) - 1 < _
    omega
  | i + 1, m, h => by
    obtain ⟨h1, e1⟩ := List.getElem?_eq_some_iff.mp h
    have h2 : ls[i]? = some ls[i] := List.getElem?_eq_getElem (by omega)
    rw [pz_last_at h2]
    have := List.pairwise_iff_getElem.mp hp i (i + 1) (by omega) h1 (by omega)
    rw [e1] at this
    omega
section RW
variable {F : qg_F} {M0 : mv_M} {Q : mv_R}
set_option maxRecDepth 100000 in
theorem rw_lines (hw : qg_wF F) {k : Nat} {A : qg_A} (hA : F.1.1.1[k]? = some A) {x1 x2 x3 x4 x5 x11 x12 x13 : Option mv_V}
    (hend : ∀ M', pz_I F M0 M' → ∀ (z9 : Int) (x10 : Option mv_V), J_L_isRight Q 111 (rL x1 x2 x3 x4 x5 (sI k) (sI (qg_ls F.1.1 k).length) (sI (pz_last A.1 (qg_ls F.1.1 k) (qg_ls F.1.1 k).length)) (sI z9) x10 x11 x12 x13) [] M') :
    ∀ (i : Nat) (M1 : mv_M), i ≤ (qg_ls F.1.1 k).length → pz_I F M0 M1 → ∀ (z7 z8 : Int) (x10 : Option mv_V), z7 = ((qg_ls F.1.1 k).length : Int) → z8 = pz_last A.1 (qg_ls F.1.1 k) i →
      J_L_isRight Q 54 (rL x1 x2 x3 x4 x5 (sI k) (sI z7) (sI z8) (sI i) x10 x11 x12 x13) [] M1 := by
  have hC := hw.1.1.1
  have hk := (List.getElem?_eq_some_iff.mp hA).1
  have hok := qg_lay_ok hC hk
  have hlen := qg_len_at hA
  have hls := pz_ls_at hA
  have h6 := hC.1
  refine mv_loop (qg_ls F.1.1 k).length (fun i M1 hi ih hI z7 z8 x10 h7 h8 => ?_)
  subst h7 h8
  refine go_L_isRight [54, 101, 111] 40 ?_
  refine And.intro (fun c => ?_) (fun c => ?_)
  · have e : i = (qg_ls F.1.1 k).length := by omega
    rw [e]
    exact hend M1 hI _ x10
  · have hlt : i < (qg_ls F.1.1 k).length := by omega
    obtain ⟨m, hm⟩ := qg_some hlt
    have hgt := pz_last_lt hls.1 (fun a ha => (hls.2 a ha).1) hm
    have hmm := List.mem_of_getElem? hm
    have hm2 := hok.1 m hmm
    have hT := (hls.2 m hmm).2
    refine sq_lineAt hI hw ((ar_line hA (i := i) (by omega)).trans (ati_some hm rfl)) (fun M2 hI2 => ?_)
    refine And.intro (fun c2 => absurd c2 (by omega)) (fun c2 => ?_)
    have at101 : ∀ M', pz_I F M0 M' → J_L_isRight Q 101 (rL x1 x2 x3 x4 x5 (sI k) (sI (qg_ls F.1.1 k).length) (sI (pz_last A.1 (qg_ls F.1.1 k) i)) (sI i) (sI m) x11 x12 x13) [] M' := fun M' hI' => by
      refine go_L_isRight [54, 101, 111] 40 ?_
      refine And.intro (by omega) ?_
      exact ih M' hlt hI' _ _ _ rfl (pz_last_at hm).symm
    refine And.intro (by omega) ?_
    refine And.intro (fun _ => at101 M2 hI2) (fun c3 => ?_)
    refine sq_module hI2 hw (r := 1 + (k : Int)) ((am_at rfl hm2).trans (by rw [hT]; omega)) (fun M3 hI3 => ?_)
    refine And.intro (by omega) ?_
    exact And.intro (fun _ => at101 M3 hI3) (fun c4 => absurd rfl c4)
set_option maxRecDepth 100000 in
theorem rw_articles (hw : qg_wF F) {x1 : Option mv_V}
    (hend : ∀ M', pz_I F M0 M' → ∀ (x6 x7 x8 x9 x10 x11 x12 x13 : Option mv_V), J_L_isRight Q 238 (rL x1 (sI F.1.1.1.length) (sI (pz_tk F.1.1 F.1.1.1.length)) (sI (qg_sum (qg_ov F.1.1) F.1.1.1.length : Nat)) (sI (qg_sum (qg_ju F.1.1) F.1.1.1.length : Nat)) x6 x7 x8 x9 x10 x11 x12 x13) [] M') :
    ∀ (k : Nat) (M1 : mv_M), k ≤ F.1.1.1.length → pz_I F M0 M1 → ∀ (z3 z4 z5 : Int) (x7 x8 x9 x10 x11 x12 x13 : Option mv_V), z3 = (pz_tk F.1.1 k : Int) → z4 = (qg_sum (qg_ov F.1.1) k : Int) → z5 = (qg_sum (qg_ju F.1.1) k : Int) →
      J_L_isRight Q 17 (rL x1 (sI F.1.1.1.length) (sI z3) (sI z4) (sI z5) (sI k) x7 x8 x9 x10 x11 x12 x13) [] M1 := by
  have hC := hw.1.1.1
  have h6 := hC.1
  refine mv_loop F.1.1.1.length (fun k M1 hk0 ih hI z3 z4 z5 x7 x8 x9 x10 x11 x12 x13 h3 h4 h5 => ?_)
  subst h3 h4 h5
  refine go_L_isRight [17, 54, 111, 168, 195, 238] 60 ?_
  refine And.intro (fun c => ?_) (fun c => ?_)
  · have e : k = F.1.1.1.length := by omega
    subst e
    exact hend M1 hI _ _ _ _ _ _ _ _
  · have hk : k < F.1.1.1.length := by omega
    obtain ⟨A, hA⟩ := qg_some hk
    have hok := qg_lay_ok hC hk
    have hlen := qg_len_at hA
    have hls := pz_ls_at hA
    have hwA := hC.2.2.1 A (List.mem_of_getElem? hA)
    have w1 := hwA.1
    have hov : qg_ov F.1.1 k = A.2.1 - (qg_ls F.1.1 k).length := by unfold qg_ov; rw [hlen]
    have hb := pz_tk_le hC (k := k) (by omega)
    refine sq_article hI hw (ar_1 hA) (fun M2 hI2 => ?_)
    refine sq_article hI2 hw (ar_3 hA) (fun M3 hI3 => ?_)
    refine And.intro (by omega) ?_
    refine sq_article hI3 hw (ar_0 hA) (fun M4 hI4 => ?_)
    refine And.intro (by omega) ?_
    refine rw_lines hw hA (fun M5 hI5 z9 x10 => ?_) 0 M4 (Nat.zero_le _) hI4 _ _ _ (by omega) rfl
    have at195 : ∀ M', pz_I F M0 M' → J_L_isRight Q 195 (rL x1 (sI F.1.1.1.length) (sI (pz_tk F.1.1 k)) (sI (qg_sum (qg_ov F.1.1) k : Nat)) (sI (qg_sum (qg_ju F.1.1) k : Nat)) (sI k) (sI (qg_ls F.1.1 k).length) (sI (pz_last A.1 (qg_ls F.1.1 k) (qg_ls F.1.1 k).length)) (sI z9) x10 x11 x12 x13) [] M' := fun M' hI' => by
      refine go_L_isRight [17, 54, 111, 168, 195, 238] 60 ?_
      refine sq_article hI' hw (ar_4 hA) (fun M6 hI6 => ?_)
      refine And.intro (by omega) ?_
      refine And.intro (by omega) ?_
      refine sq_article hI6 hw (ar_3 hA) (fun M7 hI7 => ?_)
      refine And.intro (by omega) ?_
      refine sq_article hI7 hw (ar_4 hA) (fun M8 hI8 => ?_)
      refine And.intro (by omega) ?_
      refine And.intro (by omega) ?_
      refine ih M8 hk hI8 _ _ _ _ _ _ _ _ _ _ ?_ ?_ ?_
      · rw [pz_tk_succ]; omega
      · rw [qg_sum_succ]; omega
      · rw [qg_sum_succ]; omega
    have at168 : ∀ M', pz_I F M0 M' → J_L_isRight Q 168 (rL x1 (sI F.1.1.1.length) (sI (pz_tk F.1.1 k)) (sI (qg_sum (qg_ov F.1.1) k : Nat)) (sI (qg_sum (qg_ju F.1.1) k : Nat)) (sI k) (sI (qg_ls F.1.1 k).length) (sI (pz_last A.1 (qg_ls F.1.1 k) (qg_ls F.1.1 k).length)) (sI z9) x10 x11 x12 x13) [] M' := fun M' hI' => by
      refine go_L_isRight [17, 54, 111, 168, 195, 238] 60 ?_
      refine sq_article hI' hw (ar_1 hA) (fun M6 hI6 => ?_)
      refine And.intro (fun _ => at195 M6 hI6) (fun c6 => ?_)
      refine sq_lineAt hI6 hw ((ar_line hA (i := (qg_ls F.1.1 k).length) (by omega)).trans (ati_none (Nat.le_refl _) rfl)) (fun M7 hI7 => ?_)
      exact And.intro (fun _ => at195 M7 hI7) (fun c7 => absurd rfl c7)
    refine go_L_isRight [17, 54, 168, 195, 238] 60 ?_
    refine And.intro (fun c2 => absurd c2 (by omega)) (fun _ => ?_)
    refine And.intro (fun c2 => ?_) (fun c2 => ?_)
    · refine And.intro (fun c3 => absurd (show ((qg_ls F.1.1 k).length : Int) = 0 by omega) c3) (fun _ => ?_)
      refine sq_article hI5 hw ((ar_5 hA).trans (ati_none (i := 0) (by omega) rfl)) (fun M6 hI6 => ?_)
      exact And.intro (fun c7 => absurd rfl c7) (fun _ => at168 M6 hI6)
    · obtain ⟨n, hn⟩ : ∃ n, (qg_ls F.1.1 k).length = n + 1 := ⟨(qg_ls F.1.1 k).length - 1, by omega⟩
      obtain ⟨ml, hml⟩ := qg_some (show n < (qg_ls F.1.1 k).length by omega)
      obtain ⟨mf, hmf⟩ := qg_some (show 0 < (qg_ls F.1.1 k).length by omega)
      have elast : pz_last A.1 (qg_ls F.1.1 k) (qg_ls F.1.1 k).length = (ml : Int) := by rw [hn]; exact pz_last_at hml
      refine sq_article (r := pz_last A.1 (qg_ls F.1.1 k) (qg_ls F.1.1 k).length) hI5 hw ((ar_6 hA).trans ((ati_some hml (by omega)).trans elast.symm)) (fun M6 hI6 => ?_)
      refine And.intro (fun c7 => absurd rfl c7) (fun _ => ?_)
      refine sq_article hI6 hw ((ar_5 hA).trans (ati_some hmf rfl)) (fun M7 hI7 => ?_)
      refine sq_lineAt hI7 hw ((ar_line hA (i := 0) (by omega)).trans (ati_some hmf rfl)) (fun M8 hI8 => ?_)
      refine And.intro (fun c7 => absurd rfl c7) (fun _ => ?_)
      exact And.intro (fun _ => at168 M8 hI8) (fun c7 => absurd c7 (by omega))
end RW
