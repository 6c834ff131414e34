/-! The reference's whole state; act. -/
def rq_O (f : Nat → Int) (k : Nat) (o : Option qg_C) : Prop := match o with
  | none => f (135 + 136 * k) = 0
  | some C => f (135 + 136 * k) = 1 ∧ rq_C (fun i => f (135 + 136 * k + 1 + i)) C
def rq_S (f : Nat → Int) (S : qg_S) : Prop := rq_C f S.1 ∧ ∀ k, k < 2 → rq_O f k (qg_sn S k)
theorem rq_O.fr {f g : Nat → Int} {k : Nat} {o : Option qg_C} (hk : k < 2) (h : rq_O f k o) (hw : ∀ C, o = some C → qg_wC C) (h0 : ∀ k, 135 ≤ k → k < 407 → g k = f k) : rq_O g k o := by
  cases o with
  | none => exact (h0 _ (by omega) (by omega)).trans h
  | some C => exact ⟨(h0 _ (by omega) (by omega)).trans h.1, h.2.fr (hw C rfl) (fun i hi => h0 _ (by omega) (by omega))⟩
theorem rq_S.fr {f g : Nat → Int} {S : qg_S} (h : rq_S f S) (hw : qg_wS S) (h0 : ∀ k, k < 407 → g k = f k) : rq_S g S :=
  ⟨h.1.fr hw.1 (fun k hk => h0 k (by omega)), fun k hk => (h.2 k hk).fr hk (hw.2 k) (fun i _ hi => h0 i hi)⟩
def rr_H (M : mv_M) (L : List qg_S) : Prop := M.1 11 0 4 = (L.length : Int) ∧ ∀ (i : Nat) (S : qg_S), L[i]? = some S → rq_S (fun k => M.1 26 0 (407 * i + k)) S
def rr_Tx (M : mv_M) (tx : List Nat) : Prop := M.1 11 0 6 = (tx.length : Int) ∧ ∀ (k s : Nat), tx[k]? = some s → M.1 27 0 k = (s : Int)
def rr_Z (M : mv_M) (F : qg_F) : Prop := rq_S (M.1 24 0) F.1 ∧ rr_H M F.2.1 ∧ rr_Tx M F.2.2
/-- what no state rests on -/
def rf_R (t k : Nat) : Prop := 28 ≤ t ∨ t = 25 ∨ (t = 11 ∧ k ≠ 4 ∧ k ≠ 6)
def rf_RC (t k : Nat) : Prop := rf_R t k ∨ (t = 24 ∧ k < 135)
def rf_X (t _k : Nat) : Prop := t = 11 ∨ 24 ≤ t
theorem rr_H.fr {M M' : mv_M} {L : List qg_S} (h : rr_H M L) (hw : ∀ S ∈ L, qg_wS S) (h4 : M'.1 11 0 4 = M.1 11 0 4) (h0 : ∀ k, M'.1 26 0 k = M.1 26 0 k) : rr_H M' L :=
  ⟨h4.trans h.1, fun i S hi => (h.2 i S hi).fr (hw S (List.mem_of_getElem? hi)) (fun k _ => h0 _)⟩
theorem rr_Tx.fr {M M' : mv_M} {tx : List Nat} (h : rr_Tx M tx) (h6 : M'.1 11 0 6 = M.1 11 0 6) (h0 : ∀ k, M'.1 27 0 k = M.1 27 0 k) : rr_Tx M' tx :=
  ⟨h6.trans h.1, fun k s hk => (h0 k).trans (h.2 k s hk)⟩
theorem qg_wF_H {F : qg_F} (hw : qg_wF F) : ∀ S ∈ F.2.1, qg_wS S := fun S hS => (hw.2.1 S hS).1
theorem rr_Z.wc {M M' : mv_M} {F : qg_F} {C : qg_C} (h : rr_Z M F) (hw : qg_wF F) (hC : rq_C (M'.1 24 0) C) (h0 : rr_of rf_RC M M') : rr_Z M' (qg_wc F C) := by
  obtain ⟨hS, hH, hT⟩ := h
  refine ⟨⟨hC, fun k hk => (hS.2 k hk).fr hk (hw.1.1.2 k) (fun i h1 h2 => h0.1 24 0 i (by unfold rf_RC rf_R; omega))⟩, hH.fr (qg_wF_H hw) (h0.1 _ _ _ (by unfold rf_RC rf_R; omega)) (fun k => h0.1 _ _ _ (by unfold rf_RC rf_R; omega)), hT.fr (h0.1 _ _ _ (by unfold rf_RC rf_R; omega)) (fun k => h0.1 _ _ _ (by unfold rf_RC rf_R; omega))⟩
theorem rr_Z.R {M M' : mv_M} {F : qg_F} (h : rr_Z M F) (hw : qg_wF F) (h0 : rr_of rf_R M M') : rr_Z M' F :=
  h.wc hw (h.1.1.fr hw.1.1.1 (fun k _ => h0.1 24 0 k (by unfold rf_R; omega))) (h0.wk (fun _ _ => Or.inl))
theorem rf_R_X {t k : Nat} (h : rf_R t k) : rf_X t k := by unfold rf_R at h; unfold rf_X; omega
theorem rf_RC_X {t k : Nat} (h : rf_RC t k) : rf_X t k := by unfold rf_RC rf_R at h; unfold rf_X; omega
theorem rf_lay_R {t k : Nat} (h : rf_lay t k) : rf_R t k := by unfold rf_lay at h; unfold rf_R; omega
theorem rf_try_RC {n t k : Nat} (hn : n < 8) (h : rf_try n t k) : rf_RC t k := by unfold rf_try rf_put at h; unfold rf_RC rf_R; omega
theorem rf_put_RC {n t k : Nat} (hn : n < 8) (h : rf_put n t k) : rf_RC t k := by unfold rf_put at h; unfold rf_RC rf_R; omega
theorem rr_th {M : mv_M} : rr_of rf_R M (mv_up M.1 11 0 0 0, M.2) := rr_of.rf.up (by unfold rf_R; omega)
def rf_act (t k : Nat) : Prop := t = 26 ∨ (t = 11 ∧ k = 4)
set_option maxRecDepth 100000 in
theorem sp_X11_act {F : qg_F} {M : mv_M} {Q : mv_R} (hZ : rr_Z M F) (hw : qg_wF F) (h : ∀ M', rr_Z M' (qg_act F) → rr_of rf_act M M' → Q none M') : E_X11_act [.inr (11, 0)] M Q := by
  refine ev_X11_act ?_
  have hS := hZ.1
  have h5 := hw.2.2.1
  have hwS := hw.1.1
  have e4 := hZ.2.1.1
  -- the new state is laid behind the others
  have lay : ∀ (L : List qg_S) (M1 : mv_M) (o : Option mv_V), L = (if F.2.1.length = 5 then F.2.1.tail else F.2.1) → L.length ≤ 4 → (∀ S ∈ L, qg_wS S) → rr_H M1 L → rr_of rf_act M M1 → J_X11_act Q 49 [some (.inr (11, 0)), o] [] M1 := by
    intro L M1 o hL hL4 hwL hH hO
    refine go_X11_act [51] 60 ?_
    have hl : ∀ (k : Nat) (M2 : mv_M), k ≤ 407 → (rr_of rf_act M M2 ∧ M2.1 11 0 4 = (L.length : Int) ∧ (∀ j, j < 407 * L.length → M2.1 26 0 j = M1.1 26 0 j) ∧ ∀ j, j < k → M2.1 26 0 (407 * L.length + j) = M.1 24 0 j) →
        J_X11_act Q 51 [some (.inr (11, 0)), some (.inl (k : Int))] [] M2 := by
      refine mv_loop 407 (fun k M2 hk ih hI => ?_)
      obtain ⟨hO2, e42, hold, hnew⟩ := hI
      refine go_X11_act [51] 60 ?_
      refine And.intro (fun c1 => ?_) (fun c1 => ?_)
      · refine And.intro (by omega) ?_
        have hO3 : rr_of rf_act M (mv_up M2.1 11 0 4 (M2.1 11 0 4 + 1), M2.2) := hO2.up (Or.inr ⟨rfl, rfl⟩)
        refine h _ ⟨hS.fr hwS (fun k _ => hO3.1 24 0 k (by unfold rf_act; omega)), ⟨?_, fun i S hi => ?_⟩, hZ.2.2.fr (hO3.1 _ _ _ (by unfold rf_act; omega)) (fun k => hO3.1 _ _ _ (by unfold rf_act; omega))⟩ hO3
        · refine mv_eqp.trans ?_
          show _ = ((((if F.2.1.length = 5 then F.2.1.tail else F.2.1) ++ [F.1]).length : Nat) : Int)
          rw [← hL, List.length_append, List.length_singleton]
          omega
        · have hi : ((if F.2.1.length = 5 then F.2.1.tail else F.2.1) ++ [F.1])[i]? = some S := hi
          rw [← hL] at hi
          by_cases hlt : i < L.length
          · rw [List.getElem?_append_left hlt] at hi
            exact (hH.2 i S hi).fr (hwL S (List.mem_of_getElem? hi)) (fun k hk => (mv_nep (by omega)).trans (hold _ (by omega)))
          · have hle := (List.getElem?_eq_some_iff.mp hi).1
            simp at hle
            have hi2 : i = L.length := by omega
            subst hi2
            rw [List.getElem?_append_right (by omega)] at hi
            simp at hi
            subst hi
            exact hS.fr hwS (fun k hk => (mv_nep (by omega)).trans (hnew k (by omega)))
      · refine And.intro (by omega) (And.intro (by omega) (And.intro (by omega) (And.intro (by omega) (And.intro (by omega) ?_))))
        have en : (407 * M2.1 11 0 4 + (k : Int)).toNat = 407 * L.length + k := by omega
        have ek : (k : Int).toNat = k := by omega
        rw [en, ek]
        refine ih _ (by omega) ⟨hO2.up (Or.inl rfl), (mv_nep (by omega)).trans e42, fun j hj => (mv_nep (by omega)).trans (hold j hj), fun j hj => ?_⟩
        by_cases e : j = k
        · subst e
          exact mv_eqp.trans (hO2.1 24 0 j (by unfold rf_act; omega))
        · exact (mv_nep (by omega)).trans (hnew j (by omega))
    exact hl 0 M1 (by omega) ⟨hO, hH.1, fun j _ => rfl, fun j hj => absurd hj (by omega)⟩
  refine go_X11_act [10, 49] 60 ?_
  refine And.intro (fun c1 => ?_) (fun c1 => ?_)
  · have hne : ¬ F.2.1.length = 5 := by omega
    refine lay F.2.1 M none (by rw [if_neg hne]) (by omega) (qg_wF_H hw) hZ.2.1 rr_of.rf
  · have h5e : F.2.1.length = 5 := by omega
    have hl : ∀ (k : Nat) (M1 : mv_M), k ≤ 1628 → (rr_of rf_act M M1 ∧ M1.1 11 0 4 = M.1 11 0 4 ∧ (∀ j, j < k → M1.1 26 0 j = M.1 26 0 (j + 407)) ∧ ∀ j, k ≤ j → M1.1 26 0 j = M.1 26 0 j) →
        J_X11_act Q 10 [some (.inr (11, 0)), some (.inl (k : Int))] [] M1 := by
      refine mv_loop 1628 (fun k M1 hk ih hI => ?_)
      obtain ⟨hO1, e41, hnew, hold⟩ := hI
      refine go_X11_act [10, 49] 60 ?_
      refine And.intro (fun c2 => ?_) (fun c2 => ?_)
      · refine And.intro (by omega) ?_
        refine lay F.2.1.tail _ _ (by rw [if_pos h5e]) (by rw [List.length_tail]; omega) (fun S hS => qg_wF_H hw S (List.mem_of_mem_tail hS)) ⟨?_, fun i S hi => ?_⟩ (hO1.up (Or.inr ⟨rfl, rfl⟩))
        · refine mv_eqp.trans ?_
          rw [List.length_tail]
          omega
        · have hlt := (List.getElem?_eq_some_iff.mp hi).1
          rw [List.length_tail] at hlt
          rw [List.getElem?_tail] at hi
          refine (hZ.2.1.2 (i + 1) S hi).fr (qg_wF_H hw S (List.mem_of_getElem? hi)) (fun k hk => (mv_nep (by omega)).trans ((hnew _ (by omega)).trans ?_))
          show M.1 26 0 (407 * i + k + 407) = M.1 26 0 (407 * (i + 1) + k)
          rw [show 407 * i + k + 407 = 407 * (i + 1) + k by omega]
      · refine And.intro (by omega) (And.intro (by omega) (And.intro (by omega) (And.intro (by omega) ?_)))
        have en : ((k : Int) + 407).toNat = k + 407 := by omega
        have ek : (k : Int).toNat = k := by omega
        rw [en, ek]
        refine ih _ (by omega) ⟨hO1.up (Or.inl rfl), (mv_nep (by omega)).trans e41, fun j hj => ?_, fun j hj => (mv_nep (by omega)).trans (hold j (by omega))⟩
        by_cases e : j = k
        · subst e
          exact mv_eqp.trans (hold _ (by omega))
        · exact (mv_nep (by omega)).trans (hnew j (by omega))
    exact hl 0 M (by omega) ⟨rr_of.rf, rfl, fun j hj => absurd hj (by omega), fun j _ => rfl⟩
theorem rf_act_X {t k : Nat} (h : rf_act t k) : rf_X t k := by unfold rf_act at h; unfold rf_X; omega
