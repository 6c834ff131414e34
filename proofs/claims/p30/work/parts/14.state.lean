/-! The class: State, History. -/
abbrev qg_S : Type := qg_C × Option qg_C × Option qg_C
def qg_sn (S : qg_S) (k : Nat) : Option qg_C := if k = 0 then S.2.1 else S.2.2
def qg_wS (S : qg_S) : Prop := qg_wC S.1 ∧ ∀ k C, qg_sn S k = some C → qg_wC C
def qr_O (M : mv_M) (s k : Nat) (o : Option qg_C) : Prop := match o with
  | none => M.1 17 s k = 0
  | some C => M.1 17 s k = 1 ∧ qr_C M (3 * s + 1 + k) C
def qr_S (M : mv_M) (s : Nat) (S : qg_S) : Prop := qr_C M (3 * s) S.1 ∧ ∀ k, k < 2 → qr_O M s k (qg_sn S k)
def qf_S (s t j : Nat) : Prop := (t = 1 ∧ 3 * s ≤ j ∧ j < 3 * s + 3) ∨ (t = 14 ∧ 3 * s ≤ j ∧ j < 3 * s + 3) ∨ (t = 0 ∧ 18 * s ≤ j ∧ j < 18 * s + 18) ∨ (t = 15 ∧ 18 * s ≤ j ∧ j < 18 * s + 18) ∨ (t = 5 ∧ 24 * s ≤ j ∧ j < 24 * s + 24) ∨ (t = 17 ∧ j = s)
theorem qf_SC {s c t j : Nat} (h : qf_C c t j) (h1 : 3 * s ≤ c) (h2 : c < 3 * s + 3) : qf_S s t j := by
  unfold qf_C at h
  unfold qf_S
  omega
theorem qf_S_ne {s u t j : Nat} (h : s ≠ u) (hf : qf_S u t j) : ¬ qf_S s t j := by
  unfold qf_S at *
  omega
theorem qr_O.fr {M M' : mv_M} {s k : Nat} {o : Option qg_C} (hk : k < 2) (h : qr_O M s k o) (hw : ∀ C, o = some C → qg_wC C) (h0 : ∀ t j k, qf_S s t j → M'.1 t j k = M.1 t j k) : qr_O M' s k o := by
  have e : M'.1 17 s k = M.1 17 s k := h0 _ _ _ (by unfold qf_S; omega)
  cases o with
  | none => exact e.trans h
  | some C => exact ⟨e.trans h.1, h.2.fr (hw C rfl) (fun t j i hf => h0 t j i (qf_SC hf (by omega) (by omega)))⟩
theorem qr_S.fr {M M' : mv_M} {s : Nat} {S : qg_S} (h : qr_S M s S) (hw : qg_wS S) (h0 : ∀ t j k, qf_S s t j → M'.1 t j k = M.1 t j k) : qr_S M' s S :=
  ⟨h.1.fr hw.1 (fun t j i hf => h0 t j i (qf_SC hf (by omega) (by omega))), fun k hk => (h.2 k hk).fr hk (hw.2 k) h0⟩
set_option maxRecDepth 100000 in
theorem sp_X7_copyFrom {s u : Nat} {S : qg_S} {M : mv_M} {Q : mv_R} (hsu : s ≠ u) (hS : qr_S M u S) (hw : qg_wS S) (h : ∀ M', qr_S M' s S → mv_off (qf_S s) M M' → Q none M') : E_X7_copyFrom [.inr (7, s), .inr (7, u)] M Q := by
  refine ev_X7_copyFrom ?_
  refine go_X7_copyFrom [13] 50 ?_
  refine sp_X1_copyFrom (by omega) hS.1 hw.1 (fun M0 hC0 hO0 => ?_)
  have hl : ∀ (i : Nat) (M1 : mv_M), i ≤ 2 → (mv_off (qf_S s) M M1 ∧ qr_C M1 (3 * s) S.1 ∧ ∀ k, k < i → qr_O M1 s k (qg_sn S k)) → J_X7_copyFrom Q 13 [some (.inr (7, s)), some (.inr (7, u)), some (.inl (i : Int))] [] M1 := by
    refine mv_loop 2 (fun i M1 hi ih hI => ?_)
    obtain ⟨hO, hC, hk⟩ := hI
    refine go_X7_copyFrom [13] 50 ?_
    refine And.intro (fun c1 => ?_) (fun c1 => ?_)
    · have : i = 2 := by omega
      subst this
      exact h M1 ⟨hC, hk⟩ hO
    · have hlt : i < 2 := by omega
      have hSu : qr_S M1 u S := hS.fr hw (fun t j k hf => hO.1 t j k (qf_S_ne hsu hf))
      have hOu := hSu.2 i hlt
      have hwo := hw.2 i
      refine And.intro (by omega) ?_
      refine And.intro (by omega) ?_
      have h01 : M1.1 17 u i = 0 ∨ M1.1 17 u i = 1 := by
        cases ho : qg_sn S i with
        | none => rw [ho] at hOu; exact Or.inl hOu
        | some C => rw [ho] at hOu; exact Or.inr hOu.1
      refine And.intro h01 ?_
      refine And.intro (by omega) ?_
      have hup : mv_up M1.1 17 s (i : Int).toNat (M1.1 17 u (i : Int).toNat) 17 s (i : Int).toNat = M1.1 17 u i := mv_up_eq
      have hO2 : mv_off (qf_S s) M (mv_up M1.1 17 s (i : Int).toNat (M1.1 17 u (i : Int).toNat), M1.2) := hO.up (by unfold qf_S; omega)
      have keepC : ∀ {c C}, qr_C M1 c C → qr_C (mv_up M1.1 17 s (i : Int).toNat (M1.1 17 u (i : Int).toNat), M1.2) c C := fun hh => by
        refine ⟨?_, ?_, fun i a ha => (hh.2.2.1 i a ha).fr (fun k => ?_) (fun k => ?_), fun i q hq => (hh.2.2.2.1 i q hq).fr (fun k => ?_), ?_, ?_, ?_⟩
        · simpa [mv_up] using hh.1
        · simpa [mv_up] using hh.2.1
        · simp [mv_up]
        · simp [mv_up]
        · simp [mv_up]
        · simpa [mv_up] using hh.2.2.2.2.1
        · simpa [mv_up] using hh.2.2.2.2.2.1
        · simpa [mv_up] using hh.2.2.2.2.2.2
      have keepO : ∀ k, k < i → qr_O (mv_up M1.1 17 s (i : Int).toNat (M1.1 17 u (i : Int).toNat), M1.2) s k (qg_sn S k) := fun k hki => by
        have h0 := hk k hki
        have hne : ¬ k = i := by omega
        cases ho : qg_sn S k with
        | none => rw [ho] at h0; exact (mv_up_ne (fun z => hne z.2.2)).trans h0
        | some C => rw [ho] at h0; exact ⟨(mv_up_ne (fun z => hne z.2.2)).trans h0.1, keepC h0.2⟩
      refine And.intro (fun c2 => ?_) (fun c2 => ?_)
      · have c2 : M1.1 17 u i = 0 := hup.symm.trans c2
        refine And.intro (by omega) ?_
        refine ih _ hlt ⟨hO2, keepC hC, fun k hki => ?_⟩
        by_cases hk2 : k = i
        · subst hk2
          cases ho : qg_sn S k with
          | none => exact hup.trans c2
          | some C => rw [ho] at hOu; exact absurd (hOu.1.symm.trans c2) (by decide)
        · exact keepO k (by omega)
      · have c2 : ¬ M1.1 17 u i = 0 := fun z => c2 (hup.trans z)
        refine And.intro (by omega) ?_
        refine And.intro (by omega) ?_
        cases ho : qg_sn S i with
        | none => rw [ho] at hOu; exact absurd hOu c2
        | some C =>
          rw [ho] at hOu
          refine sp_X1_copyFrom (d := 3 * u + 1 + (i : Int).toNat) (C := C) (by omega) (keepC hOu.2) (hwo C ho) (fun M2 hC2 hO3 => ?_)
          refine And.intro (by omega) ?_
          have hdis : ∀ {t j : Nat}, ¬ qf_C (3 * s + 1 + i) t j → ∀ k, M2.1 t j k = mv_up M1.1 17 s (i : Int).toNat (M1.1 17 u (i : Int).toNat) t j k := fun hn k => hO3.1 _ _ k hn
          refine ih M2 hlt ⟨hO2.tr (hO3.wk (fun t j z => qf_SC z (by omega) (by omega))), ?_, fun k hki => ?_⟩
          · exact (keepC hC).fr hw.1 (fun t j k hf => hO3.1 t j k (qf_ne (by omega) hf))
          · by_cases hk2 : k = i
            · subst hk2
              rw [ho]
              refine ⟨?_, hC2⟩
              rw [hdis (by unfold qf_C; omega)]
              exact hup.trans hOu.1
            · have h0 := keepO k (by omega)
              cases ho2 : qg_sn S k with
              | none => rw [ho2] at h0; exact (hdis (by unfold qf_C; omega) k).trans h0
              | some D =>
                rw [ho2] at h0
                exact ⟨(hdis (by unfold qf_C; omega) k).trans h0.1, h0.2.fr (hw.2 k D ho2) (fun t j k2 hf => hO3.1 t j k2 (qf_ne (by omega) hf))⟩
  exact hl 0 M0 (by omega) ⟨hO0.wk (fun t j z => qf_SC z (by omega) (by omega)), hC0, fun k hk => absurd hk (by omega)⟩
def qg_snaps (S : qg_S) : Nat := (if S.2.1.isSome then 1 else 0) + (if S.2.2.isSome then 1 else 0)
theorem qr_O01 {M : mv_M} {s k : Nat} {o : Option qg_C} (h : qr_O M s k o) : M.1 17 s k = if o.isSome then 1 else 0 := by
  cases o with
  | none => exact h
  | some C => exact h.1
set_option maxRecDepth 100000 in
theorem sp_X7_snapshotCount {s : Nat} {S : qg_S} {M : mv_M} {Q : mv_R} (hS : qr_S M s S) (h : Q (some (.inl (qg_snaps S : Int))) M) : E_X7_snapshotCount [.inr (7, s)] M Q := by
  refine ev_X7_snapshotCount ?_
  refine go_X7_snapshotCount [] 90 ?_
  have h0 : M.1 17 s 0 = _ := qr_O01 (hS.2 0 (by omega))
  have h1 : M.1 17 s 1 = _ := qr_O01 (hS.2 1 (by omega))
  have e0 : qg_sn S 0 = S.2.1 := rfl
  have e1 : qg_sn S 1 = S.2.2 := rfl
  rw [e0] at h0
  rw [e1] at h1
  unfold qg_snaps at h
  refine And.intro (fun c1 => absurd c1 (by decide)) (fun _ => ?_)
  refine And.intro (by decide) ?_
  refine And.intro (fun c2 => ?_) (fun c2 => ?_)
  · have c2 : M.1 17 s 0 = 0 := c2
    refine And.intro (by decide) ?_
    refine And.intro (fun c1 => absurd c1 (by decide)) (fun _ => ?_)
    refine And.intro (by decide) ?_
    refine And.intro (fun c3 => ?_) (fun c3 => ?_)
    · have c3 : M.1 17 s 1 = 0 := c3
      refine And.intro (by decide) ?_
      refine And.intro (fun _ => ?_) (fun c1 => absurd c1 (by decide))
      cases h2 : S.2.1.isSome <;> cases h3 : S.2.2.isSome <;> simp [h2, h3] at h0 h1 h <;> first | exact h | omega
    · have c3 : ¬ M.1 17 s 1 = 0 := c3
      refine And.intro (by decide) ?_
      refine And.intro (by decide) ?_
      refine And.intro (fun _ => ?_) (fun c1 => absurd c1 (by decide))
      cases h2 : S.2.1.isSome <;> cases h3 : S.2.2.isSome <;> simp [h2, h3] at h0 h1 h <;> first | exact h | omega
  · have c2 : ¬ M.1 17 s 0 = 0 := c2
    refine And.intro (by decide) ?_
    refine And.intro (by decide) ?_
    refine And.intro (fun c1 => absurd c1 (by decide)) (fun _ => ?_)
    refine And.intro (by decide) ?_
    refine And.intro (fun c3 => ?_) (fun c3 => ?_)
    · have c3 : M.1 17 s 1 = 0 := c3
      refine And.intro (by decide) ?_
      refine And.intro (fun _ => ?_) (fun c1 => absurd c1 (by decide))
      cases h2 : S.2.1.isSome <;> cases h3 : S.2.2.isSome <;> simp [h2, h3] at h0 h1 h <;> first | exact h | omega
    · have c3 : ¬ M.1 17 s 1 = 0 := c3
      refine And.intro (by decide) ?_
      refine And.intro (by decide) ?_
      refine And.intro (fun _ => ?_) (fun c1 => absurd c1 (by decide))
      cases h2 : S.2.1.isSome <;> cases h3 : S.2.2.isSome <;> simp [h2, h3] at h0 h1 h <;> first | exact h | omega
-- History
def qr_H (M : mv_M) (L : List qg_S) : Prop := M.1 3 0 1 = (L.length : Int) ∧ L.length ≤ 5 ∧ (∀ i, i < 5 → 1 ≤ M.2 i ∧ M.2 i ≤ 5) ∧ (∀ i j, i < 5 → j < 5 → M.2 i = M.2 j → i = j) ∧ ∀ i S, L[i]? = some S → qr_S M (M.2 i) S
def qf_H (t j : Nat) : Prop := t = 3 ∨ ∃ s, 1 ≤ s ∧ s ≤ 5 ∧ qf_S s t j
def mv_of1 (F : Nat → Nat → Prop) (M M' : mv_M) : Prop := ∀ t j k, ¬ F t j → M'.1 t j k = M.1 t j k
set_option maxRecDepth 100000 in
theorem sp_X3_dropOldest {M : mv_M} {Q : mv_R} (h : ∀ p, p 0 = M.2 1 → p 1 = M.2 2 → p 2 = M.2 3 → p 3 = M.2 4 → p 4 = M.2 0 → Q none (mv_up M.1 3 0 1 4, p)) : E_X3_dropOldest [.inr (3, 0)] M Q := by
  refine ev_X3_dropOldest ?_
  refine go_X3_dropOldest [] 200 ?_
  refine And.intro (by decide) ?_
  refine And.intro (fun c1 => absurd c1 (by decide)) (fun _ => And.intro (by decide) (And.intro (by decide) (And.intro (by decide) (And.intro (by decide) ?_))))
  refine And.intro (fun c1 => absurd c1 (by decide)) (fun _ => And.intro (by decide) (And.intro (by decide) (And.intro (by decide) (And.intro (by decide) ?_))))
  refine And.intro (fun c1 => absurd c1 (by decide)) (fun _ => And.intro (by decide) (And.intro (by decide) (And.intro (by decide) (And.intro (by decide) ?_))))
  refine And.intro (fun c1 => absurd c1 (by decide)) (fun _ => And.intro (by decide) (And.intro (by decide) (And.intro (by decide) (And.intro (by decide) ?_))))
  refine And.intro (fun _ => ?_) (fun c1 => absurd c1 (by decide))
  refine And.intro (by decide) (h _ ?_ ?_ ?_ ?_ ?_) <;> simp [mv_us]
set_option maxRecDepth 100000 in
theorem sp_X3_keep {L : List qg_S} {S : qg_S} {M : mv_M} {Q : mv_R} (hH : qr_H M L) (hwL : ∀ T ∈ L, qg_wS T) (hS : qr_S M 0 S) (hw : qg_wS S) (h : ∀ M', qr_H M' ((if L.length = 5 then L.tail else L) ++ [S]) → mv_of1 qf_H M M' → Q none M') : E_X3_keep [.inr (3, 0), .inr (7, 0)] M Q := by
  refine ev_X3_keep ?_
  refine go_X3_keep [12] 90 ?_
  obtain ⟨h1, h5, hr, hinj, hL⟩ := hH
  have key : ∀ (L' : List qg_S) (M1 : mv_M), M1.1 3 0 1 = (L'.length : Int) → L'.length < 5 → (∀ i, i < 5 → 1 ≤ M1.2 i ∧ M1.2 i ≤ 5) → (∀ i j, i < 5 → j < 5 → M1.2 i = M1.2 j → i = j) → (∀ i T, L'[i]? = some T → qr_S M1 (M1.2 i) T) → (∀ T ∈ L', qg_wS T) → qr_S M1 0 S →
      (∀ M', qr_H M' (L' ++ [S]) → mv_of1 qf_H M1 M' → Q none M') → J_X3_keep Q 12 [some (.inr (3, 0)), some (.inr (7, 0))] [] M1 := by
    intro L' M1 h1 h5 hr hinj hL hwL hS hQ
    refine go_X3_keep [] 90 ?_
    refine And.intro (by omega) ?_
    have e : (M1.1 3 0 1).toNat = L'.length := by omega
    have hrl := hr L'.length h5
    rw [e]
    refine sp_X7_copyFrom (by omega) hS hw (fun M2 hS2 hO2 => ?_)
    have e1 : M2.1 3 0 1 = M1.1 3 0 1 := hO2.1 _ _ _ (by unfold qf_S; omega)
    refine And.intro (by omega) ?_
    refine hQ _ ⟨?_, ?_, ?_, ?_, fun i T hT => ?_⟩ (fun t j k hf => ?_)
    · simp [mv_up, e1, h1]
    · simp; omega
    · intro i hi; have := hr i hi; show 1 ≤ M2.2 i ∧ M2.2 i ≤ 5; rw [hO2.2]; exact this
    · intro i j hi hj; show M2.2 i = M2.2 j → _; rw [hO2.2]; exact hinj i j hi hj
    · have keepS : ∀ {s T}, qr_S M2 s T → qr_S (mv_up M2.1 3 0 1 (M2.1 3 0 1 + 1), M2.2) s T := fun {s T} hh => by
        have kC : ∀ {c C}, qr_C M2 c C → qr_C (mv_up M2.1 3 0 1 (M2.1 3 0 1 + 1), M2.2) c C := fun hh => by
          refine ⟨?_, ?_, fun i a ha => (hh.2.2.1 i a ha).fr (fun k => ?_) (fun k => ?_), fun i q hq => (hh.2.2.2.1 i q hq).fr (fun k => ?_), ?_, ?_, ?_⟩
          · simpa [mv_up] using hh.1
          · simpa [mv_up] using hh.2.1
          · simp [mv_up]
          · simp [mv_up]
          · simp [mv_up]
          · simpa [mv_up] using hh.2.2.2.2.1
          · simpa [mv_up] using hh.2.2.2.2.2.1
          · simpa [mv_up] using hh.2.2.2.2.2.2
        refine ⟨kC hh.1, fun k hk => ?_⟩
        have h0 := hh.2 k hk
        cases ho : qg_sn T k with
        | none => rw [ho] at h0; exact (mv_up_ne (t := 3) (j := 0) (k := 1) (x := M2.1 3 0 1 + 1) (fun z => absurd z.1 (by decide))).trans h0
        | some C => rw [ho] at h0; exact ⟨(mv_up_ne (t := 3) (j := 0) (k := 1) (x := M2.1 3 0 1 + 1) (fun z => absurd z.1 (by decide))).trans h0.1, kC h0.2⟩
      refine keepS ?_
      show qr_S M2 (M2.2 i) T
      rw [hO2.2]
      by_cases hi : i < L'.length
      · rw [List.getElem?_append_left hi] at hT
        refine (hL i T hT).fr (hwL T (List.mem_of_getElem? hT)) (fun t j k hf => hO2.1 t j k (qf_S_ne (fun z => ?_) hf))
        have := hinj _ _ (by omega) (by omega) z
        omega
      · have hlen := (List.getElem?_eq_some_iff.mp hT).1
        simp at hlen
        have hi2 : i = L'.length := by omega
        subst hi2
        rw [List.getElem?_append_right (by omega)] at hT
        simp at hT
        subst hT
        exact hS2
    · have h3 : ¬ (t = 3) := fun z => hf (Or.inl z)
      refine (mv_up_ne (fun z => h3 z.1)).trans ?_
      exact hO2.1 t j k (fun z => hf (Or.inr ⟨_, hrl.1, hrl.2, z⟩))
  refine And.intro (fun c1 => ?_) (fun c1 => ?_)
  · have hlt : L.length < 5 := by omega
    rw [if_neg (by omega)] at h
    exact key L M h1 hlt hr hinj hL hwL hS h
  · have hlt : L.length = 5 := by omega
    rw [if_pos hlt] at h
    refine sp_X3_dropOldest (fun p p0 p1 p2 p3 p4 => ?_)
    have hp : ∀ i, i < 4 → p i = M.2 (i + 1) := by
      intro i hi
      have : i = 0 ∨ i = 1 ∨ i = 2 ∨ i = 3 := by omega
      rcases this with rfl | rfl | rfl | rfl <;> assumption
    have hp2 : ∀ i, i < 5 → ∃ j, j < 5 ∧ p i = M.2 j ∧ (i < 4 → j = i + 1) ∧ (i = 4 → j = 0) := by
      intro i hi
      by_cases h4 : i < 4
      · exact ⟨i + 1, by omega, hp i h4, fun _ => rfl, fun z => by omega⟩
      · have : i = 4 := by omega
        subst this
        exact ⟨0, by omega, p4, fun z => by omega, fun _ => rfl⟩
    have fr : ∀ {s T}, qg_wS T → qr_S M s T → qr_S (mv_up M.1 3 0 1 4, p) s T := fun hw hh => hh.fr hw (fun t j k hf => mv_up_ne (fun z => by unfold qf_S at hf; omega))
    refine key L.tail (mv_up M.1 3 0 1 4, p) ?_ ?_ ?_ ?_ ?_ (fun T hT => hwL T (List.mem_of_mem_tail hT)) (fr hw hS) (fun M' hM' hO => h M' hM' (fun t j k hf => (hO t j k hf).trans (mv_up_ne (fun z => hf (Or.inl z.1)))))
    · simp [mv_up, hlt]
    · simp [hlt]
    · intro i hi
      obtain ⟨j, hj, e, -, -⟩ := hp2 i hi
      show 1 ≤ p i ∧ p i ≤ 5
      rw [e]; exact hr j hj
    · intro i k hi hk hik
      obtain ⟨j, hj, e, a1, a2⟩ := hp2 i hi
      obtain ⟨j2, hj2, e2, b1, b2⟩ := hp2 k hk
      have hik : p i = p k := hik
      rw [e, e2] at hik
      have := hinj j j2 hj hj2 hik
      omega
    · intro i T hT
      rw [List.getElem?_tail] at hT
      have hi := (List.getElem?_eq_some_iff.mp hT).1
      show qr_S _ (p i) T
      rw [hp i (by omega)]
      exact fr (hwL T (List.mem_of_getElem? hT)) (hL (i + 1) T hT)
set_option maxRecDepth 100000 in
theorem sp_X3_giveBackTo {L : List qg_S} {S : qg_S} {M : mv_M} {Q : mv_R} (hH : qr_H M (L ++ [S])) (hwL : ∀ T ∈ L, qg_wS T) (hw : qg_wS S) (h : ∀ M', qr_H M' L → qr_S M' 0 S → mv_off (fun t j => t = 3 ∨ qf_S 0 t j) M M' → Q none M') : E_X3_giveBackTo [.inr (3, 0), .inr (7, 0)] M Q := by
  refine ev_X3_giveBackTo ?_
  refine go_X3_giveBackTo [] 90 ?_
  obtain ⟨h1, h5, hr, hinj, hL⟩ := hH
  simp at h1 h5
  refine And.intro (fun c1 => absurd c1 (by omega)) (fun _ => ?_)
  refine And.intro (by omega) ?_
  have e : (mv_up M.1 3 0 1 (M.1 3 0 1 - 1) 3 0 1).toNat = L.length := by rw [mv_up_eq]; omega
  refine And.intro (by simp only [mv_up_eq]; omega) ?_
  rw [e]
  have fr : ∀ {s T}, qg_wS T → qr_S M s T → qr_S (mv_up M.1 3 0 1 (M.1 3 0 1 - 1), M.2) s T := fun hw hh => hh.fr hw (fun t j k hf => mv_up_ne (fun z => by unfold qf_S at hf; omega))
  have hrl := hr L.length (by omega)
  have hS0 : qr_S M (M.2 L.length) S := hL L.length S (by rw [List.getElem?_append_right (by omega)]; simp)
  refine sp_X7_copyFrom (s := 0) (u := M.2 L.length) (by omega) (fr hw hS0) hw (fun M2 hS2 hO2 => ?_)
  refine h M2 ⟨?_, by omega, ?_, ?_, fun i T hT => ?_⟩ hS2 ⟨fun t j k hf => ?_, hO2.2⟩
  · rw [hO2.1 _ _ _ (by unfold qf_S; omega)]
    show mv_up M.1 3 0 1 (M.1 3 0 1 - 1) 3 0 1 = _
    rw [mv_up_eq]; omega
  · rw [hO2.2]; exact hr
  · rw [hO2.2]; exact hinj
  · have hi := (List.getElem?_eq_some_iff.mp hT).1
    have hri := hr i (by omega)
    rw [hO2.2]
    refine (fr (hwL T (List.mem_of_getElem? hT)) (hL i T (by rw [List.getElem?_append_left hi]; exact hT))).fr (hwL T (List.mem_of_getElem? hT)) (fun t j k hf => hO2.1 t j k (qf_S_ne ?_ hf))
    show 0 ≠ M.2 i
    omega
  · refine (hO2.1 t j k (fun z => hf (Or.inr z))).trans (mv_up_ne (fun z => hf (Or.inl z.1)))
