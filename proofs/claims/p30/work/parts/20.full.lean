/-! The whole state of the class, and what every action does first. -/
abbrev qg_F : Type := qg_S × List qg_S × List Nat
def qg_inC (C : qg_C) : Prop := ∀ q ∈ C.2.1, qg_inQ q
def qg_okS (S : qg_S) : Prop := qg_wS S ∧ qg_inC S.1 ∧ ∀ k C, qg_sn S k = some C → qg_inC C
def qg_wF (F : qg_F) : Prop := qg_okS F.1 ∧ (∀ S ∈ F.2.1, qg_okS S) ∧ F.2.1.length ≤ 5 ∧ F.2.2.length ≤ 140 ∧ ∀ s ∈ F.2.2, 1 ≤ s ∧ s ≤ 255
def qr_Tx (M : mv_M) (tx : List Nat) : Prop := M.1 8 0 1 = (tx.length : Int) ∧ ∀ (k s : Nat), tx[k]? = some s → M.1 19 0 k = (s : Int)
def qr_Z (M : mv_M) (F : qg_F) : Prop := qr_S M 0 F.1 ∧ qr_H M F.2.1 ∧ qr_Tx M F.2.2
def qr_X (M : mv_M) (F : qg_F) : Prop := qr_Z M F ∧ (M.1 10 0 6 = 1 ∨ (M.1 10 0 6 = 0 ∧ qr_L M 2 F.1.1))
def qf_X (t _j : Nat) : Prop := t ≠ 11 ∧ t < 24
def qg_act (F : qg_F) : qg_F := (F.1, (if F.2.1.length = 5 then F.2.1.tail else F.2.1) ++ [F.1], F.2.2)
def qg_wc (F : qg_F) (C : qg_C) : qg_F := ((C, F.1.2), F.2)
def qf_Z (t j : Nat) : Prop := (∃ s, s ≤ 5 ∧ qf_S s t j) ∨ t = 3 ∨ t = 8 ∨ t = 19
theorem qr_Z.fr {M M' : mv_M} {F : qg_F} (h : qr_Z M F) (hw : qg_wF F) (h0 : ∀ t j k, qf_Z t j → M'.1 t j k = M.1 t j k) (h2 : M'.2 = M.2) : qr_Z M' F := by
  obtain ⟨hS, ⟨e1, e5, er, ei, eL⟩, eT, eS⟩ := h
  refine ⟨hS.fr hw.1.1 (fun t j k hf => h0 t j k (Or.inl ⟨0, by omega, hf⟩)), ⟨(h0 _ _ _ (Or.inr (Or.inl rfl))).trans e1, e5, by rw [h2]; exact er, by rw [h2]; exact ei, fun i S hi => ?_⟩, (h0 _ _ _ (Or.inr (Or.inr (Or.inl rfl)))).trans eT, fun k s hk => (h0 _ _ _ (Or.inr (Or.inr (Or.inr rfl)))).trans (eS k s hk)⟩
  rw [h2]
  have hlt := (List.getElem?_eq_some_iff.mp hi).1
  exact (eL i S hi).fr (hw.2.1 S (List.mem_of_getElem? hi)).1 (fun t j k hf => h0 t j k (Or.inl ⟨_, (er i (by omega)).2, hf⟩))
theorem qf_TZ {t j : Nat} (h : qf_Z t j) : ¬ qf_T t j := by
  unfold qf_T qf_L qf_C
  rcases h with ⟨s, hs, h⟩ | h | h | h
  · unfold qf_S at h; omega
  · omega
  · omega
  · omega
theorem qr_X.frT {M M' : mv_M} {F : qg_F} (h : qr_X M F) (hw : qg_wF F) (h0 : mv_off qf_T M M') : qr_X M' F := by
  have e10 : M'.1 10 0 6 = M.1 10 0 6 := h0.1 _ _ _ (by unfold qf_T qf_L qf_C; omega)
  refine ⟨h.1.fr hw (fun t j k hf => h0.1 t j k (qf_TZ hf)) h0.2, ?_⟩
  rcases h.2 with z | ⟨z1, z2⟩
  · exact Or.inl (e10.trans z)
  · exact Or.inr ⟨e10.trans z1, z2.fr hw.1.1.1.1 (fun t j k hf => h0.1 t j k (by unfold qf_L at hf; unfold qf_T qf_L qf_C; omega))⟩
theorem qf_TX {t j : Nat} (h : qf_T t j) : qf_X t j := by
  unfold qf_T qf_L qf_C at h
  unfold qf_X
  omega
theorem mv_off.of1 {F G : Nat → Nat → Prop} {M M' : mv_M} (h : mv_off F M M') (hg : ∀ t j, F t j → G t j) : mv_of1 G M M' := fun t j k hf => h.1 t j k (fun z => hf (hg t j z))
theorem mv_of1.tr {F : Nat → Nat → Prop} {M M1 M2 : mv_M} (h : mv_of1 F M M1) (h2 : mv_of1 F M1 M2) : mv_of1 F M M2 := fun t j k hf => (h2 t j k hf).trans (h t j k hf)
theorem mv_of1.up {F : Nat → Nat → Prop} {M M1 : mv_M} (h : mv_of1 F M M1) {t j k : Nat} {x : Int} (hF : F t j) : mv_of1 F M (mv_up M1.1 t j k x, M1.2) :=
  fun a b c hf => (if_neg (fun q : a = t ∧ b = j ∧ c = k => hf (by rw [q.1, q.2.1]; exact hF))).trans (h a b c hf)
theorem mv_of1.rf {F : Nat → Nat → Prop} {M : mv_M} : mv_of1 F M M := fun _ _ _ _ => rfl
set_option maxRecDepth 100000 in
theorem sp_X10_beginAction {F : qg_F} {M : mv_M} {Q : mv_R} (hZ : qr_Z M F) (hw : qg_wF F) (h : ∀ M', qr_Z M' (qg_act F) → M'.1 10 0 6 = 1 → mv_of1 qf_X M M' → Q none M') : E_X10_beginAction [.inr (10, 0)] M Q := by
  refine ev_X10_beginAction ?_
  refine go_X10_beginAction [] 60 ?_
  obtain ⟨hS, hH, hT⟩ := hZ
  refine sp_X3_keep hH (fun T hT => (hw.2.1 T hT).1) hS hw.1.1 (fun M1 hH1 hO1 => ?_)
  have n0 : ∀ t j k, qf_S 0 t j → M1.1 t j k = M.1 t j k := fun t j k hf => hO1 t j k (by
    rintro (z | ⟨s, z1, z2, z3⟩)
    · unfold qf_S at hf; omega
    · exact qf_S_ne (by omega) z3 hf)
  have fr : ∀ {s T}, qg_wS T → qr_S M1 s T → qr_S (mv_up M1.1 10 0 6 1, M1.2) s T := fun hw hh => hh.fr hw (fun t j k hf => mv_up_ne (fun z => by unfold qf_S at hf; omega))
  have n8 : ∀ t j k, (t = 8 ∨ t = 19) → M1.1 t j k = M.1 t j k := fun t j k hf => hO1 t j k (by
    rintro (z | ⟨s, z1, z2, z3⟩)
    · omega
    · unfold qf_S at z3; omega)
  refine And.intro (Or.inr rfl) (h _ ⟨fr hw.1.1 (hS.fr hw.1.1 n0), ?_, ?_⟩ ?_ ?_)
  · obtain ⟨e1, e5, er, ei, eL⟩ := hH1
    refine ⟨?_, e5, er, ei, fun i T hi => fr ?_ (eL i T hi)⟩
    · exact (mv_up_ne (t := 10) (j := 0) (k := 6) (x := 1) (fun z => absurd z.1 (by decide))).trans e1
    · rcases List.mem_append.mp (List.mem_of_getElem? hi) with z | z
      · split at z
        · exact (hw.2.1 T (List.mem_of_mem_tail z)).1
        · exact (hw.2.1 T z).1
      · rw [List.mem_singleton.mp z]; exact hw.1.1
  · refine ⟨?_, fun k s hk => ?_⟩
    · exact (mv_up_ne (t := 10) (j := 0) (k := 6) (x := 1) (fun z => absurd z.1 (by decide))).trans ((n8 8 0 1 (Or.inl rfl)).trans hT.1)
    · exact (mv_up_ne (t := 10) (j := 0) (k := 6) (x := 1) (fun z => absurd z.1 (by decide))).trans ((n8 19 0 k (Or.inr rfl)).trans (hT.2 k s hk))
  · simp [mv_up]
  · intro t j k hf
    refine (mv_up_ne (fun z => hf (by unfold qf_X; omega))).trans (hO1 t j k (fun z => hf ?_))
    unfold qf_X
    rcases z with z | ⟨s, z1, z2, z3⟩
    · omega
    · unfold qf_S at z3; omega
theorem qg_wF_act {F : qg_F} (hw : qg_wF F) : qg_wF (qg_act F) := by
  refine ⟨hw.1, fun S hS => ?_, ?_, hw.2.2.2⟩
  · rcases List.mem_append.mp hS with z | z
    · split at z
      · exact hw.2.1 S (List.mem_of_mem_tail z)
      · exact hw.2.1 S z
    · rw [List.mem_singleton.mp z]; exact hw.1
  · show ((if F.2.1.length = 5 then F.2.1.tail else F.2.1) ++ [F.1]).length ≤ 5
    have := hw.2.2.1
    split <;> simp <;> omega
theorem qg_wF_wc {F : qg_F} (hw : qg_wF F) {C : qg_C} (hC : qg_wC C) (hi : qg_inC C) : qg_wF (qg_wc F C) :=
  ⟨⟨⟨hC, hw.1.1.2⟩, hi, hw.1.2.2⟩, hw.2⟩
/-- the current content is another one now -/
theorem qr_Z.wc {M M' : mv_M} {F : qg_F} {C : qg_C} (h : qr_Z M F) (hw : qg_wF F) (hC : qr_C M' 0 C) (h0 : mv_off (qf_C 0) M M') : qr_Z M' (qg_wc F C) := by
  obtain ⟨hS, ⟨e1, e5, er, ei, eL⟩, eT, eS⟩ := h
  refine ⟨⟨hC, fun k hk => ?_⟩, ⟨(h0.1 _ _ _ (by unfold qf_C; omega)).trans e1, e5, by rw [h0.2]; exact er, by rw [h0.2]; exact ei, fun i S hi => ?_⟩, (h0.1 _ _ _ (by unfold qf_C; omega)).trans eT, fun k s hk => (h0.1 _ _ _ (by unfold qf_C; omega)).trans (eS k s hk)⟩
  · have h1 := hS.2 k hk
    show qr_O M' 0 k (qg_sn F.1 k)
    have e17 : M'.1 17 0 k = M.1 17 0 k := h0.1 _ _ _ (by unfold qf_C; omega)
    cases ho : qg_sn F.1 k with
    | none => rw [ho] at h1; exact e17.trans h1
    | some D =>
      rw [ho] at h1
      exact ⟨e17.trans h1.1, h1.2.fr (hw.1.1.2 k D ho) (fun t j i hf => h0.1 t j i (qf_ne (by omega) hf))⟩
  · rw [h0.2]
    have hlt : i < F.2.1.length := (List.getElem?_eq_some_iff.mp hi).1
    have hri := er i (by omega)
    exact (eL i S hi).fr (hw.2.1 S (List.mem_of_getElem? hi)).1 (fun t j k hf => h0.1 t j k (fun z => qf_S_ne (s := 0) (u := M.2 i) (by omega) hf (qf_SC z (by omega) (by omega))))
theorem qf_CX {c t j : Nat} (h : qf_C c t j) : qf_X t j := by
  unfold qf_C at h
  unfold qf_X
  omega
set_option maxRecDepth 100000 in
theorem sp_X10_currentLayout {F : qg_F} {M : mv_M} {Q : mv_R} (hX : qr_X M F) (hw : qg_wF F) (h : ∀ M', qr_X M' F → qr_L M' 2 F.1.1 → mv_of1 qf_X M M' → Q (some (.inr (4, 2))) M') : E_X10_currentLayout [.inr (10, 0)] M Q := by
  refine ev_X10_currentLayout ?_
  refine go_X10_currentLayout [] 60 ?_
  refine And.intro (fun c1 => ?_) (fun c1 => ?_)
  · rcases hX.2 with z | ⟨z1, z2⟩
    · omega
    · exact h M hX z2 mv_of1.rf
  · refine sp_X4_arrange (C := F.1.1) hX.1.1.1 hw.1.1.1 (fun M1 hL1 hO1 => ?_)
    refine And.intro (Or.inl rfl) ?_
    have hfr : ∀ t j k, ¬ t = 10 → mv_up M1.1 10 0 6 0 t j k = M1.1 t j k := fun t j k hn => mv_up_ne (fun z => hn z.1)
    have hLL : qr_L (mv_up M1.1 10 0 6 0, M1.2) 2 F.1.1 := hL1.fr hw.1.1.1.1 (fun t j k hf => hfr t j k (by unfold qf_L at hf; omega))
    refine h _ ⟨?_, Or.inr ⟨by show mv_up M1.1 10 0 6 0 10 0 6 = 0; rw [mv_up_eq], hLL⟩⟩ hLL ?_
    · refine hX.1.fr hw (fun t j k hf => ?_) hO1.2
      refine (hfr t j k ?_).trans (hO1.1 t j k ?_)
      · rcases hf with ⟨s, hs, hf⟩ | hf | hf | hf
        · unfold qf_S at hf; omega
        · omega
        · omega
        · omega
      · rcases hf with ⟨s, hs, hf⟩ | hf | hf | hf
        · unfold qf_S at hf; unfold qf_L; omega
        · unfold qf_L; omega
        · unfold qf_L; omega
        · unfold qf_L; omega
    · intro t j k hf
      refine (hfr t j k (fun z => hf (by unfold qf_X; omega))).trans (hO1.1 t j k (fun z => hf (by unfold qf_L at z; unfold qf_X; omega)))
