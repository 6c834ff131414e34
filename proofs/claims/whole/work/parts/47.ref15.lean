/-! roomFor: a longer article leaves no more room to any; the reference's search. -/
theorem qg_pour_zero (i l : Nat) (T : Nat → Nat) (ls : List Nat) (k lp j : Nat) : qg_pour i l 0 k T ls lp j = (T, ls, j) := rfl
theorem qg_pour_succ (i l n k : Nat) (T : Nat → Nat) (ls : List Nat) (lp j : Nat) : qg_pour i l (n + 1) k T ls lp j = if ls.length < l then (if T k = 0 then (if 0 < ls.length ∧ k / 120 ≠ lp then qg_pour i l n (k + 1) (qg_up T k (11 + i)) ls (k / 120) (j + 1) else qg_pour i l n (k + 1) (qg_up T k (1 + i)) (ls ++ [k]) (k / 120) j) else qg_pour i l n (k + 1) T ls lp j) else (T, ls, j) := rfl
theorem qg_up_0 {T : Nat → Nat} {k v m : Nat} (hv : v ≠ 0) (h : qg_up T k v m = 0) : m ≠ k ∧ T m = 0 := by
  unfold qg_up at h
  by_cases e : m = k
  · rw [if_pos e] at h; exact absurd h hv
  · rw [if_neg e] at h; exact ⟨e, h⟩
theorem qg_up_ne {T : Nat → Nat} {k v m : Nat} (h : m ≠ k) : qg_up T k v m = T m := by
  unfold qg_up; rw [if_neg h]
theorem qg_pour_free (i l : Nat) : ∀ (n k : Nat) (T : Nat → Nat) (ls : List Nat) (lp j m : Nat), (qg_pour i l n k T ls lp j).1 m = 0 → T m = 0
  | 0, k, T, ls, lp, j, m, h => h
  | n + 1, k, T, ls, lp, j, m, h => by
    rw [qg_pour_succ] at h
    split at h
    · split at h
      · split at h
        · exact (qg_up_0 (by omega) (qg_pour_free i l n _ _ _ _ _ m h)).2
        · exact (qg_up_0 (by omega) (qg_pour_free i l n _ _ _ _ _ m h)).2
      · exact qg_pour_free i l n _ _ _ _ _ m h
    · exact h
theorem qg_pour_mono (i l l' : Nat) (hll : l' ≤ l) : ∀ (n k : Nat) (T T' : Nat → Nat) (ls ls' : List Nat) (lp lp' j j' : Nat), (∀ m, T m = 0 → T' m = 0) → (ls'.length = l' ∨ (ls'.length ≤ l' ∧ ls.length ≤ ls'.length ∧ (0 < ls.length → lp ≤ lp') ∧ (0 < ls'.length → lp' ≤ k / 120))) →
    (∀ m, (qg_pour i l n k T ls lp j).1 m = 0 → (qg_pour i l' n k T' ls' lp' j').1 m = 0) ∧ ((qg_pour i l' n k T' ls' lp' j').2.1.length = l' ∨ ((qg_pour i l' n k T' ls' lp' j').2.1.length ≤ l' ∧ (qg_pour i l n k T ls lp j).2.1.length ≤ (qg_pour i l' n k T' ls' lp' j').2.1.length))
  | 0, k, T, T', ls, ls', lp, lp', j, j', hT, hR => ⟨hT, by
    rcases hR with h | h
    · exact Or.inl h
    · exact Or.inr ⟨h.1, h.2.1⟩⟩
  | n + 1, k, T, T', ls, ls', lp, lp', j, j', hT, hR => by
    by_cases hf : ls'.length = l'
    · have e : qg_pour i l' (n + 1) k T' ls' lp' j' = (T', ls', j') := by rw [qg_pour_succ, if_neg (by omega)]
      rw [e]
      exact ⟨fun m hm => hT m (qg_pour_free i l _ _ _ _ _ _ m hm), Or.inl hf⟩
    · rcases hR with h | ⟨h1, h2, h3, h4⟩
      · exact absurd h hf
      · rw [qg_pour_succ, qg_pour_succ, if_pos (show ls'.length < l' by omega), if_pos (show ls.length < l by omega)]
        have la : ∀ x : List Nat, (x ++ [k]).length = x.length + 1 := fun x => by simp
        by_cases t : T k = 0
        · have t' := hT k t
          rw [if_pos t, if_pos t']
          have hup : ∀ v v', v ≠ 0 → ∀ m, qg_up T k v m = 0 → qg_up T' k v' m = 0 := fun v v' hv m hm => by
            have := qg_up_0 hv hm
            rw [qg_up_ne this.1]; exact hT m this.2
          by_cases c : 0 < ls.length ∧ k / 120 ≠ lp
          · rw [if_pos c]
            by_cases c' : 0 < ls'.length ∧ k / 120 ≠ lp'
            · rw [if_pos c']
              exact qg_pour_mono i l l' hll n (k + 1) _ _ _ _ _ _ _ _ (hup _ _ (by omega)) (Or.inr ⟨h1, h2, fun _ => Nat.le_refl _, fun _ => by omega⟩)
            · rw [if_neg c']
              exact qg_pour_mono i l l' hll n (k + 1) _ _ _ _ _ _ _ _ (hup _ _ (by omega)) (Or.inr ⟨by rw [la]; omega, by rw [la]; omega, fun _ => Nat.le_refl _, fun _ => by omega⟩)
          · rw [if_neg c]
            by_cases c' : 0 < ls'.length ∧ k / 120 ≠ lp'
            · rw [if_pos c']
              refine qg_pour_mono i l l' hll n (k + 1) _ _ _ _ _ _ _ _ (hup _ _ (by omega)) (Or.inr ⟨h1, ?_, fun _ => Nat.le_refl _, fun _ => by omega⟩)
              rw [la]
              have g4 := h4 c'.1
              rcases Nat.eq_zero_or_pos ls.length with z | z
              · omega
              · have := h3 z
                have := c'.2
                exact absurd (show 0 < ls.length ∧ k / 120 ≠ lp from ⟨z, by omega⟩) c
            · rw [if_neg c']
              exact qg_pour_mono i l l' hll n (k + 1) _ _ _ _ _ _ _ _ (hup _ _ (by omega)) (Or.inr ⟨by rw [la]; omega, by rw [la, la]; omega, fun _ => Nat.le_refl _, fun _ => by omega⟩)
        · rw [if_neg t]
          have hk : ∀ m, T m = 0 → m ≠ k := fun m hm e => t (by rw [← e]; exact hm)
          by_cases t' : T' k = 0
          · rw [if_pos t']
            have hup : ∀ v', ∀ m, T m = 0 → qg_up T' k v' m = 0 := fun v' m hm => by rw [qg_up_ne (hk m hm)]; exact hT m hm
            have hlp : 0 < ls.length → lp ≤ k / 120 := fun z => by
              have := h3 z
              have := h4 (by omega)
              omega
            by_cases c' : 0 < ls'.length ∧ k / 120 ≠ lp'
            · rw [if_pos c']
              exact qg_pour_mono i l l' hll n (k + 1) _ _ _ _ _ _ _ _ (hup _) (Or.inr ⟨h1, h2, hlp, fun _ => by omega⟩)
            · rw [if_neg c']
              exact qg_pour_mono i l l' hll n (k + 1) _ _ _ _ _ _ _ _ (hup _) (Or.inr ⟨by rw [la]; omega, by rw [la]; omega, hlp, fun _ => by omega⟩)
          · rw [if_neg t']
            exact qg_pour_mono i l l' hll n (k + 1) _ _ _ _ _ _ _ _ hT (Or.inr ⟨h1, h2, h3, fun z => by have := h4 z; omega⟩)
theorem qg_layA_mono : ∀ (as as' : List qg_A) (i : Nat) (T T' : Nat → Nat), (∀ m, T m = 0 → T' m = 0) → (∀ (k : Nat) (a b : qg_A), as[k]? = some a → as'[k]? = some b → b.1 = a.1 ∧ b.2.1 ≤ a.2.1) →
    ∀ (k : Nat) (a b : qg_A) (r r' : List Nat × Nat), as[k]? = some a → as'[k]? = some b → (qg_layA as i T).2[k]? = some r → (qg_layA as' i T').2[k]? = some r' → b.2.1 - r'.1.length ≤ a.2.1 - r.1.length
  | [], _, _, _, _, _, _, k, a, b, r, r', h, _, _, _ => by simp at h
  | _ :: _, [], _, _, _, _, _, k, a, b, r, r', _, h, _, _ => by simp at h
  | x :: as, y :: as', i, T, T', hT, hr, k, a, b, r, r', ha, hb, h1, h2 => by
    have h0 := hr 0 x y rfl rfl
    have hp := qg_pour_mono i x.2.1 y.2.1 h0.2 (360 - x.1) x.1 T T' [] [] 0 0 0 0 hT (Or.inr ⟨Nat.zero_le _, Nat.le_refl _, fun _ => Nat.le_refl _, fun z => absurd z (by simp)⟩)
    have ey : qg_pour i y.2.1 (360 - y.1) y.1 T' [] 0 0 = qg_pour i y.2.1 (360 - x.1) x.1 T' [] 0 0 := by rw [h0.1]
    cases k with
    | zero =>
      have ha : some x = some a := ha
      have hb : some y = some b := hb
      have h1 : some (qg_pour i x.2.1 (360 - x.1) x.1 T [] 0 0).2 = some r := h1
      have h2 : some (qg_pour i y.2.1 (360 - y.1) y.1 T' [] 0 0).2 = some r' := h2
      rw [ey] at h2
      injection ha with ha
      injection hb with hb
      injection h1 with h1
      injection h2 with h2
      subst ha; subst hb; subst h1; subst h2
      rcases hp.2 with z | ⟨z1, z2⟩
      · omega
      · omega
    | succ k =>
      have h1 : (qg_layA as (i + 1) (qg_pour i x.2.1 (360 - x.1) x.1 T [] 0 0).1).2[k]? = some r := h1
      have h2 : (qg_layA as' (i + 1) (qg_pour i y.2.1 (360 - y.1) y.1 T' [] 0 0).1).2[k]? = some r' := h2
      rw [ey] at h2
      exact qg_layA_mono as as' (i + 1) _ _ hp.1 (fun k a b ha hb => hr (k + 1) a b ha hb) k a b r r' ha hb h1 h2
theorem qg_setL_mono {C : qg_C} {a L L' : Nat} {A : qg_A} (hA : C.1[a]? = some A) (hl : L' ≤ L) {i : Nat} (hi : i < C.1.length) : qg_ov (qg_setL C a L') i ≤ qg_ov (qg_setL C a L) i := by
  have e := qg_setL_eq hA L
  have e' := qg_setL_eq hA L'
  obtain ⟨x, hx, hr⟩ := qg_lay_at (C := qg_setL C a L) (i := i) (by rw [qg_setL_len]; exact hi)
  obtain ⟨x', hx', hr'⟩ := qg_lay_at (C := qg_setL C a L') (i := i) (by rw [qg_setL_len]; exact hi)
  unfold qg_ov
  rw [qg_len_at hx, qg_len_at hx']
  unfold qg_lay at hr hr'
  have eq2 : (qg_setL C a L).2 = (qg_setL C a L').2 := by rw [e, e']
  rw [eq2] at hr
  refine qg_layA_mono (qg_setL C a L).1 (qg_setL C a L').1 0 _ _ (fun _ z => z) (fun k b c hb hc => ?_) i x x' _ _ hx hx' hr hr'
  rw [e] at hb
  rw [e'] at hc
  have hb : (C.1.set a (A.1, L, A.2.2))[k]? = some b := hb
  have hc : (C.1.set a (A.1, L', A.2.2))[k]? = some c := hc
  rw [List.getElem?_set] at hb hc
  by_cases ek : a = k
  · rw [if_pos ek] at hb hc
    split at hb
    · rename_i hlt
      rw [if_pos hlt] at hc
      injection hb with hb
      injection hc with hc
      subst hb; subst hc
      exact ⟨rfl, hl⟩
    · cases hb
  · rw [if_neg ek] at hb hc
    rw [hb] at hc
    injection hc with hc
    subst hc
    exact ⟨rfl, Nat.le_refl _⟩
theorem qg_fit_mono {C : qg_C} {a L L' : Nat} {A : qg_A} (hA : C.1[a]? = some A) (hl : L' ≤ L) (h : ¬ qg_more (qg_setL C a L) C) : ¬ qg_more (qg_setL C a L') C := by
  rintro ⟨i, hi, hlt⟩
  rw [qg_setL_len] at hi
  have := qg_setL_mono hA hl hi
  exact h ⟨i, by rw [qg_setL_len]; exact hi, by omega⟩
theorem qg_room_lt {C : qg_C} {a r s : Nat} {A : qg_A} (hA : C.1[a]? = some A) (hr : qg_room C a A.2.1 r) (hs : qg_room C a A.2.1 s) : ¬ r < s := by
  intro hlt
  obtain ⟨r1, r2, r3, r4⟩ := hr
  obtain ⟨s1, s2, s3, s4⟩ := hs
  rcases r4 with z | z
  · omega
  · rcases s3 with y | y
    · omega
    · exact qg_fit_mono hA (show r + 1 ≤ s by omega) y z
theorem is_room_eq {F : qg_F} {a x y : Int} (hx : is_room F a x) (hy : is_room F a y) : x = y := by
  unfold is_room at hx hy
  cases ha : qg_art F.1.1 a with
  | none =>
    rw [ha] at hx hy
    exact hx.trans hy.symm
  | some A =>
    rw [ha] at hx hy
    obtain ⟨r, rfl, hr⟩ := hx
    obtain ⟨s, rfl, hs⟩ := hy
    have h1 := qg_room_lt (qg_art_mem ha) hr hs
    have h2 := qg_room_lt (qg_art_mem ha) hs hr
    omega
set_option maxRecDepth 100000 in
theorem sp_X11_roomFor {F : qg_F} {a : Int} {M : mv_M} {Q : mv_R} (hZ : rr_Z M F) (hw : qg_wF F) (h : ∀ M' x, is_room F a x → rr_Z M' F → rr_of rf_X M M' → Q (some (.inl x)) M') : E_X11_roomFor [.inr (11, 0), .inl a] M Q := by
  refine ev_X11_roomFor ?_
  refine go_X11_roomFor [33] 60 ?_
  have hZ0 := hZ.R hw rr_th
  have hO0 := (rr_th (M := M)).wk (fun t k => rf_R_X)
  obtain ⟨M0, hM0⟩ : ∃ M0 : mv_M, M0 = (mv_up M.1 11 0 0 0, M.2) := ⟨_, rfl⟩
  rw [← hM0] at hZ0 hO0
  show E_X11_isArticle [.inr (11, 0), .inl a] (mv_up M.1 11 0 0 0, M.2) _
  rw [← hM0]
  have hC := hw.1.1.1
  have h6 := hC.1
  unfold is_room at h
  refine sp_X11_isArticle hZ0.1.1 h6 (fun c1 => mv_nt ?_) (fun c1 => mv_nf ?_)
  · obtain ⟨n, A, rfl, hn, hA, ha⟩ := qg_art_some c1
    rw [ha] at h
    dsimp only at h
    rw [show (n : Int).toNat = n by omega] at h
    have hwA := hC.2.2.1 A (List.mem_of_getElem? hA)
    have h200 := hwA.2.2.1
    have h1 := hwA.2.1
    refine sp_X11_of (p := 1) rfl rfl (by omega) (hZ0.1.1.2.2.1 n A hA).2.1 ?_
    refine sp_X11_noteOver hZ0.1.1 hC hw.1.2.1 (fun M1 hB1 hO1 => ?_)
    have hC1 : rq_C (M1.1 24 0) F.1.1 := hZ0.1.1.of hC hO1 (fun k z => by unfold rf_note at z; omega)
    have hlen : (C : qg_C) → C.1 = C.1 := fun _ => rfl
    -- the row's article has a length
    have setC : ∀ {f g : Nat → Int} {L K : Nat}, A.2.1 ≤ L → L ≤ 200 → rq_C f (qg_setL F.1.1 n L) → g (5 + 11 * n + 1) = (K : Int) → (∀ k, k ≠ 5 + 11 * n + 1 → g k = f k) → rq_C g (qg_setL F.1.1 n K) := by
      intro f g L K hL1 hL2 hf gK go
      have hwL := qg_wC_setL hC hA hL1 hL2
      have hAL : (qg_setL F.1.1 n L).1[n]? = some (A.1, L, A.2.2) := by
        rw [qg_setL_eq hA]
        show (F.1.1.1.set n _)[n]? = _
        rw [List.getElem?_set_self hn]
      have hr := hf.2.2.1 n _ hAL
      have hh := hf.setA (g := g) (a := (A.1, K, A.2.2)) hwL (by rw [qg_setL_len]; exact hn) ⟨(go _ (by omega)).trans hr.1, gK, (go _ (by omega)).trans hr.2.2.1, fun k l hk => (go _ (by omega)).trans (hr.2.2.2 k l hk)⟩ (fun k hk => go k (by omega))
      rw [qg_setL_eq hA L] at hh
      rw [qg_setL_eq hA K]
      have e2 : (F.1.1.1.set n (A.1, L, A.2.2)).set n (A.1, K, A.2.2) = F.1.1.1.set n (A.1, K, A.2.2) := List.set_set ..
      have hh : rq_C g ((F.1.1.1.set n (A.1, L, A.2.2)).set n (A.1, K, A.2.2), F.1.1.2) := hh
      rw [e2] at hh
      exact hh
    have hS : ∀ {M2 M3 : mv_M}, rr_of rf_RC M0 M2 → rr_of rf_RC M2 M3 → rr_of rf_X M M3 := fun h2 h3 => (hO0.tr (h2.wk (fun t k => rf_RC_X))).tr (h3.wk (fun t k => rf_RC_X))
    have hO1' : rr_of rf_RC M0 M1 := hO1.wk (fun t k z => by unfold rf_note at z; unfold rf_RC rf_R; omega)
    -- the end
    have fin : ∀ (M2 : mv_M) (L r : Nat) (x y : Int), x = (r : Int) → A.2.1 ≤ L → L ≤ 200 → rr_of rf_RC M0 M2 → rq_C (M2.1 24 0) (qg_setL F.1.1 n L) → qg_room F.1.1 n A.2.1 r → J_X11_roomFor Q 83 [some (.inr (11, 0)), some (.inl (n : Int)), some (.inl (A.2.1 : Int)), some (.inl x), some (.inl y)] [] M2 := by
      intro M2 L r x y hx hL1 hL2 hO2 hC2 hr
      refine go_X11_roomFor [] 60 ?_
      refine And.intro (by omega) (And.intro (by omega) (And.intro (by omega) (And.intro (by omega) ?_)))
      have en : (5 + 11 * (n : Int) + 1).toNat = 5 + 11 * n + 1 := by omega
      rw [en]
      have hC3 : rq_C ((mv_up M2.1 24 0 (5 + 11 * n + 1) (A.2.1 : Int)) 24 0) (qg_setL F.1.1 n A.2.1) := setC hL1 hL2 hC2 mv_up_eq (fun k hk => mv_up_ne (fun z => hk z.2.2))
      rw [qg_setL_self hA] at hC3
      have hO3 : rr_of rf_RC M2 (mv_up M2.1 24 0 (5 + 11 * n + 1) (A.2.1 : Int), M2.2) := rr_of.rf.up (by unfold rf_RC rf_R; omega)
      exact h _ x ⟨r, hx, hr⟩ (hZ0.wc hw hC3 (hO2.tr hO3)) (hS hO2 hO3)
    have hl : ∀ (j : Nat) (M2 : mv_M) (L : Nat), A.2.1 + j ≤ 200 → A.2.1 ≤ L → L ≤ 200 → rr_of rf_RC M0 M2 → rq_C (M2.1 24 0) (qg_setL F.1.1 n L) → (∀ i, i < F.1.1.1.length → M2.1 32 0 i = (qg_ov F.1.1 i : Int)) → (A.2.1 + j = 200 ∨ qg_more (qg_setL F.1.1 n (A.2.1 + j + 1)) F.1.1) → ∀ x : Int, x = ((A.2.1 + j : Nat) : Int) →
        J_X11_roomFor Q 33 [some (.inr (11, 0)), some (.inl (n : Int)), some (.inl (A.2.1 : Int)), some (.inl (A.2.1 : Int)), some (.inl x)] [] M2 := by
      intro j
      induction j with
      | zero =>
        intro M2 L hj hL1 hL2 hO2 hC2 hB2 hm x hx
        refine go_X11_roomFor [33, 83] 60 ?_
        refine And.intro (fun _ => ?_) (fun c => absurd c (by omega))
        exact fin M2 L A.2.1 _ _ rfl hL1 hL2 hO2 hC2 ⟨Nat.le_refl _, h200, Or.inl rfl, hm⟩
      | succ j ih =>
        intro M2 L hj hL1 hL2 hO2 hC2 hB2 hm x hx
        obtain ⟨K, hK⟩ : ∃ K, K = A.2.1 + (j + 1) := ⟨_, rfl⟩
        rw [← hK] at hx hj hm
        subst hx
        refine go_X11_roomFor [33, 83] 80 ?_
        refine And.intro (fun c => absurd c (by omega)) (fun _ => ?_)
        refine And.intro (fun c => absurd rfl c) (fun _ => ?_)
        refine And.intro (by omega) (And.intro (by omega) (And.intro (by omega) (And.intro (by omega) ?_)))
        have en : (5 + 11 * (n : Int) + 1).toNat = 5 + 11 * n + 1 := by omega
        rw [en]
        have hC3 : rq_C ((mv_up M2.1 24 0 (5 + 11 * n + 1) (K : Int)) 24 0) (qg_setL F.1.1 n K) := setC hL1 hL2 hC2 mv_up_eq (fun k hk => mv_up_ne (fun z => hk z.2.2))
        have hO3 : rr_of rf_RC M0 (mv_up M2.1 24 0 (5 + 11 * n + 1) (K : Int), M2.2) := hO2.up (by unfold rf_RC rf_R; omega)
        have hwK := qg_wC_setL hC hA (show A.2.1 ≤ K by omega) hj
        have hinK : qg_inC (qg_setL F.1.1 n K) := by rw [qg_setL_eq hA]; exact hw.1.2.1
        refine sp_X11_layOut hC3 hwK hinK (fun M4 hL4 hO4 => ?_)
        have hC4 := hC3.of (M := (mv_up M2.1 24 0 (5 + 11 * n + 1) (K : Int), M2.2)) hwK hO4 (fun k z => by unfold rf_lay at z; omega)
        have hB4 : ∀ i, i < F.1.1.1.length → M4.1 32 0 i = (qg_ov F.1.1 i : Int) := fun i hi => (hO4.1 32 0 i (by unfold rf_lay; omega)).trans ((mv_nep (by omega)).trans (hB2 i hi))
        have hO04 : rr_of rf_RC M0 M4 := hO3.tr (hO4.wk (fun t k z => Or.inl (rf_lay_R z)))
        refine sp_X11_isMoreOver (B := F.1.1) hC4 hwK hL4 (fun i hi => hB4 i (by rw [qg_setL_len] at hi; exact hi)) (fun c => mv_t ?_) (fun c => mv_f ?_)
        · refine And.intro (by omega) ?_
          refine ih M4 K (by omega) (by omega) hj hO04 hC4 hB4 (Or.inr ?_) _ (by omega)
          rw [show A.2.1 + j + 1 = K by omega]
          exact c
        · refine And.intro (by omega) ?_
          refine go_X11_roomFor [83] 60 ?_
          have hr : qg_room F.1.1 n A.2.1 K := ⟨by omega, hj, Or.inr c, hm⟩
          refine And.intro (fun _ => fin M4 K K _ _ rfl (by omega) hj hO04 hC4 hr) (fun _ => ?_)
          exact And.intro (fun _ => fin M4 K K _ _ rfl (by omega) hj hO04 hC4 hr) (fun z => absurd z (by omega))
    have hC1' : rq_C (M1.1 24 0) (qg_setL F.1.1 n A.2.1) := by rw [qg_setL_self hA]; exact hC1
    exact hl (200 - A.2.1) M1 A.2.1 (by omega) (Nat.le_refl _) h200 hO1' hC1' hB1 (Or.inl (by omega)) _ (by omega)
  · rw [qg_art_none c1] at h
    exact h M0 (-1) rfl hZ0 hO0
