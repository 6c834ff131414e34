/-! The document's state as mathematics (qg_), how the class's cells hold it (qr_), and the first specs (sp_). -/
theorem mv_t {p q : Prop} (h : q) : ((1 : Int) = 0 → p) ∧ (¬ (1 : Int) = 0 → q) := ⟨fun e => absurd e (by decide), fun _ => h⟩
theorem mv_f {p q : Prop} (h : p) : ((0 : Int) = 0 → p) ∧ (¬ (0 : Int) = 0 → q) := ⟨fun _ => h, fun e => absurd rfl e⟩
theorem mv_nt {p q : Prop} (h : p) : (¬ (1 : Int) = 0 → p) ∧ ((1 : Int) = 0 → q) := ⟨fun _ => h, fun e => absurd e (by decide)⟩
theorem mv_nf {p q : Prop} (h : q) : (¬ (0 : Int) = 0 → p) ∧ ((0 : Int) = 0 → q) := ⟨fun e => absurd rfl e, fun _ => h⟩
/-- a loop that counts up to N -/
theorem mv_loop {σ : Type} {P : Nat → σ → Prop} (N : Nat) (step : ∀ i s, i ≤ N → (∀ s', i < N → P (i + 1) s') → P i s) : ∀ i s, i ≤ N → P i s := by
  have key : ∀ n i s, i ≤ N → N - i = n → P i s := by
    intro n
    induction n with
    | zero => intro i s hi hn; exact step i s hi (fun s' h => absurd h (by omega))
    | succ n ih => intro i s hi hn; exact step i s hi (fun s' h => ih (i + 1) s' (by omega) (by omega))
  exact fun i s hi => key (N - i) i s hi rfl
/-- a loop that ends by a measure -/
theorem mv_while {σ : Type} {P : σ → Prop} (μ : σ → Nat) (step : ∀ s, (∀ s', μ s' < μ s → P s') → P s) : ∀ s, P s := by
  have key : ∀ n s, μ s ≤ n → P s := by
    intro n
    induction n with
    | zero => intro s h; exact step s (fun s' h' => by omega)
    | succ n ih => intro s h; exact step s (fun s' h' => ih s' (by omega))
  exact fun s => key (μ s) s (Nat.le_refl _)
/-- nothing but the cells of F is written -/
def mv_off (F : Nat → Nat → Prop) (M M' : mv_M) : Prop := (∀ t j k, ¬ F t j → M'.1 t j k = M.1 t j k) ∧ M'.2 = M.2
theorem mv_off.rf {F : Nat → Nat → Prop} {M : mv_M} : mv_off F M M := ⟨fun _ _ _ _ => rfl, rfl⟩
theorem mv_off.tr {F : Nat → Nat → Prop} {M M1 M2 : mv_M} (h : mv_off F M M1) (h2 : mv_off F M1 M2) : mv_off F M M2 := ⟨fun t j k hf => (h2.1 t j k hf).trans (h.1 t j k hf), h2.2.trans h.2⟩
theorem mv_off.wk {F G : Nat → Nat → Prop} {M M1 : mv_M} (h : mv_off F M M1) (hg : ∀ t j, F t j → G t j) : mv_off G M M1 := ⟨fun t j k hf => h.1 t j k (fun z => hf (hg t j z)), h.2⟩
theorem mv_off.up {F : Nat → Nat → Prop} {M M1 : mv_M} (h : mv_off F M M1) {t j k : Nat} {x : Int} (hF : F t j) : mv_off F M (mv_up M1.1 t j k x, M1.2) :=
  ⟨fun a b c hf => (if_neg (fun q : a = t ∧ b = j ∧ c = k => hf (by rw [q.1, q.2.1]; exact hF))).trans (h.1 a b c hf), h.2⟩
theorem mv_up_eq {f : Nat → Nat → Nat → Int} {t j k : Nat} {x : Int} : mv_up f t j k x t j k = x := if_pos ⟨rfl, rfl, rfl⟩
theorem mv_up_ne {f : Nat → Nat → Nat → Int} {t j k : Nat} {x : Int} {a b c : Nat} (h : ¬ (a = t ∧ b = j ∧ c = k)) : mv_up f t j k x a b c = f a b c := if_neg h
-- articles (start, length, lines of the sentences), quotes (article, sentence, width, height, place), the content
abbrev qg_A : Type := Nat × Nat × List Nat
abbrev qg_Q : Type := Nat × Nat × Nat × Nat × Option (Nat × Nat × Nat)
abbrev qg_C : Type := List qg_A × List qg_Q × (Nat × Nat × Nat)
def qg_wA (a : qg_A) : Prop := a.1 < 360 ∧ 1 ≤ a.2.1 ∧ a.2.1 ≤ 200 ∧ a.2.2.length ≤ 8 ∧ ∀ l ∈ a.2.2, l < a.2.1
def qg_wQ (q : qg_Q) : Prop := 1 ≤ q.2.2.1 ∧ q.2.2.1 ≤ 3 ∧ 1 ≤ q.2.2.2.1 ∧ q.2.2.2.1 ≤ 6 ∧ ∀ p, q.2.2.2.2 = some p → p.1 < 3 ∧ p.2.1 < 6 ∧ p.2.2 < 20
def qg_own (as : List qg_A) (q : qg_Q) : Prop := ∃ a, as[q.1]? = some a ∧ q.2.1 < a.2.2.length
def qg_wC (C : qg_C) : Prop := C.1.length ≤ 6 ∧ C.2.1.length ≤ 8 ∧ (∀ a ∈ C.1, qg_wA a) ∧ (∀ q ∈ C.2.1, qg_wQ q ∧ qg_own C.1 q) ∧ C.2.2.1 ≤ 10 ∧ C.2.2.1 ≤ C.2.2.2.1 ∧ C.2.2.2.1 ≤ 20 ∧ 1 ≤ C.2.2.2.2 ∧ C.2.2.2.2 ≤ 10
/-- all placed quotes lie in their pages -/
def qg_inQ (q : qg_Q) : Prop := ∀ p, q.2.2.2.2 = some p → p.2.1 + q.2.2.1 ≤ 6 ∧ p.2.2 + q.2.2.2.1 ≤ 20
def qr_A (M : mv_M) (j : Nat) (a : qg_A) : Prop := M.1 0 j 1 = (a.1 : Int) ∧ M.1 0 j 2 = (a.2.1 : Int) ∧ M.1 0 j 3 = (a.2.2.length : Int) ∧ ∀ (k l : Nat), a.2.2[k]? = some l → M.1 15 j k = (l : Int)
def qr_P (M : mv_M) (j : Nat) (o : Option (Nat × Nat × Nat)) : Prop := match o with
  | none => M.1 5 j 4 = 0
  | some p => M.1 5 j 4 = 1 ∧ M.1 5 j 5 = (p.1 : Int) ∧ M.1 5 j 6 = (p.2.1 : Int) ∧ M.1 5 j 7 = (p.2.2 : Int)
def qr_Q (M : mv_M) (j : Nat) (q : qg_Q) : Prop := M.1 5 j 0 = (q.1 : Int) ∧ M.1 5 j 1 = (q.2.1 : Int) ∧ M.1 5 j 2 = (q.2.2.1 : Int) ∧ M.1 5 j 3 = (q.2.2.2.1 : Int) ∧ qr_P M j q.2.2.2.2
def qr_C (M : mv_M) (c : Nat) (C : qg_C) : Prop := M.1 1 c 3 = (C.1.length : Int) ∧ M.1 1 c 4 = (C.2.1.length : Int) ∧ (∀ (i : Nat) (a : qg_A), C.1[i]? = some a → qr_A M (6 * c + i) a) ∧ (∀ (i : Nat) (q : qg_Q), C.2.1[i]? = some q → qr_Q M (8 * c + i) q) ∧
  M.1 14 c 0 = (C.2.2.1 : Int) ∧ M.1 14 c 1 = (C.2.2.2.1 : Int) ∧ M.1 14 c 2 = (C.2.2.2.2 : Int)
/-- the cells of a content -/
def qf_C (c t j : Nat) : Prop := (t = 1 ∧ j = c) ∨ (t = 14 ∧ j = c) ∨ (t = 0 ∧ 6 * c ≤ j ∧ j < 6 * c + 6) ∨ (t = 15 ∧ 6 * c ≤ j ∧ j < 6 * c + 6) ∨ (t = 5 ∧ 8 * c ≤ j ∧ j < 8 * c + 8)
theorem qr_A.fr {M M' : mv_M} {j : Nat} {a : qg_A} (h : qr_A M j a) (h0 : ∀ k, M'.1 0 j k = M.1 0 j k) (h1 : ∀ k, M'.1 15 j k = M.1 15 j k) : qr_A M' j a :=
  ⟨(h0 1).trans h.1, (h0 2).trans h.2.1, (h0 3).trans h.2.2.1, fun k l hk => (h1 k).trans (h.2.2.2 k l hk)⟩
theorem qr_P.fr {M M' : mv_M} {j : Nat} {o : Option (Nat × Nat × Nat)} (h : qr_P M j o) (h0 : ∀ k, M'.1 5 j k = M.1 5 j k) : qr_P M' j o := by
  cases o with
  | none => exact (h0 4).trans h
  | some p => exact ⟨(h0 4).trans h.1, (h0 5).trans h.2.1, (h0 6).trans h.2.2.1, (h0 7).trans h.2.2.2⟩
theorem qr_Q.fr {M M' : mv_M} {j : Nat} {q : qg_Q} (h : qr_Q M j q) (h0 : ∀ k, M'.1 5 j k = M.1 5 j k) : qr_Q M' j q :=
  ⟨(h0 0).trans h.1, (h0 1).trans h.2.1, (h0 2).trans h.2.2.1, (h0 3).trans h.2.2.2.1, h.2.2.2.2.fr h0⟩
theorem qr_C.fr {M M' : mv_M} {c : Nat} {C : qg_C} (h : qr_C M c C) (hw : qg_wC C) (h0 : ∀ t j k, qf_C c t j → M'.1 t j k = M.1 t j k) : qr_C M' c C := by
  refine ⟨(h0 _ _ _ (Or.inl ⟨rfl, rfl⟩)).trans h.1, (h0 _ _ _ (Or.inl ⟨rfl, rfl⟩)).trans h.2.1, fun i a ha => (h.2.2.1 i a ha).fr (fun k => h0 _ _ _ ?_) (fun k => h0 _ _ _ ?_), fun i q hq => (h.2.2.2.1 i q hq).fr (fun k => h0 _ _ _ ?_), (h0 _ _ _ (Or.inr (Or.inl ⟨rfl, rfl⟩))).trans h.2.2.2.2.1, (h0 _ _ _ (Or.inr (Or.inl ⟨rfl, rfl⟩))).trans h.2.2.2.2.2.1, (h0 _ _ _ (Or.inr (Or.inl ⟨rfl, rfl⟩))).trans h.2.2.2.2.2.2⟩
  · have hi := (List.getElem?_eq_some_iff.mp ha).1
    have := hw.1
    unfold qf_C; omega
  · have hi := (List.getElem?_eq_some_iff.mp ha).1
    have := hw.1
    unfold qf_C; omega
  · have hi := (List.getElem?_eq_some_iff.mp hq).1
    have := hw.2.1
    unfold qf_C; omega
-- the static helpers
set_option maxRecDepth 100000 in
theorem sp_isWithin {v a b : Int} {M : mv_M} {Q : mv_R} (h1 : a ≤ v ∧ v ≤ b → Q (some (.inl 1)) M) (h0 : ¬ (a ≤ v ∧ v ≤ b) → Q (some (.inl 0)) M) : E_X10_isWithin [.inl v, .inl a, .inl b] M Q := by
  refine ev_X10_isWithin ?_
  refine go_X10_isWithin [] 50 ?_
  refine And.intro (fun c1 => ?_) (fun c1 => ?_)
  · exact And.intro (Or.inl rfl) (h0 (by omega))
  · refine And.intro (fun c2 => ?_) (fun c2 => ?_)
    · exact And.intro (Or.inl rfl) (h0 (by omega))
    · exact And.intro (Or.inr rfl) (h1 (by omega))
set_option maxRecDepth 100000 in
theorem sp_isModule {v : Int} {M : mv_M} {Q : mv_R} (h1 : 0 ≤ v ∧ v ≤ 359 → Q (some (.inl 1)) M) (h0 : ¬ (0 ≤ v ∧ v ≤ 359) → Q (some (.inl 0)) M) : E_X10_isModule [.inl v] M Q := by
  refine ev_X10_isModule ?_
  refine go_X10_isModule [] 50 ?_
  refine sp_isWithin (fun c1 => ?_) (fun c1 => ?_)
  · exact And.intro (Or.inr rfl) (h1 c1)
  · exact And.intro (Or.inl rfl) (h0 c1)
set_option maxRecDepth 100000 in
theorem sp_isPlace {p c r : Int} {M : mv_M} {Q : mv_R} (h1 : (0 ≤ p ∧ p ≤ 2) ∧ (0 ≤ c ∧ c ≤ 5) ∧ (0 ≤ r ∧ r ≤ 19) → Q (some (.inl 1)) M) (h0 : ¬ ((0 ≤ p ∧ p ≤ 2) ∧ (0 ≤ c ∧ c ≤ 5) ∧ (0 ≤ r ∧ r ≤ 19)) → Q (some (.inl 0)) M) : E_X10_isPlace [.inl p, .inl c, .inl r] M Q := by
  refine ev_X10_isPlace ?_
  refine go_X10_isPlace [] 50 ?_
  refine sp_isWithin (fun c1 => mv_t ?_) (fun c1 => mv_f (And.intro (Or.inl rfl) (h0 (by omega))))
  refine sp_isWithin (fun c2 => mv_t ?_) (fun c2 => mv_f (And.intro (Or.inl rfl) (h0 (by omega))))
  refine sp_isWithin (fun c3 => mv_t ?_) (fun c3 => mv_f (And.intro (Or.inl rfl) (h0 (by omega))))
  exact And.intro (Or.inr rfl) (h1 ⟨c1, c2, c3⟩)
set_option maxRecDepth 100000 in
theorem sp_moduleAt {p c r : Nat} {x y z : Int} {M : mv_M} {Q : mv_R} (ex : x = (p : Int)) (ey : y = (c : Int)) (ez : z = (r : Int)) (hp : p < 3) (hc : c < 6) (hr : r < 20) (h : Q (some (.inl ((p * 120 + c * 20 + r : Nat) : Int))) M) : E_X10_moduleAt [.inl x, .inl y, .inl z] M Q := by
  subst ex; subst ey; subst ez
  refine ev_X10_moduleAt ?_
  refine go_X10_moduleAt [] 50 ?_
  refine And.intro (by omega) (And.intro (by omega) (And.intro (by omega) (And.intro (by omega) ?_)))
  have e : ((p * 120 + c * 20 + r : Nat) : Int) = (p : Int) * 120 + (c : Int) * 20 + (r : Int) := by omega
  rw [e] at h
  exact h
set_option maxRecDepth 100000 in
theorem sp_pageOf {m : Nat} {x : Int} {M : mv_M} {Q : mv_R} (ex : x = (m : Int)) (h : Q (some (.inl ((m / 120 : Nat) : Int))) M) : E_X10_pageOf [.inl x] M Q := by
  subst ex
  refine ev_X10_pageOf ?_
  refine go_X10_pageOf [] 50 ?_
  exact And.intro (by omega) h
set_option maxRecDepth 100000 in
theorem sp_columnOf {m : Nat} {x : Int} {M : mv_M} {Q : mv_R} (ex : x = (m : Int)) (h : Q (some (.inl ((m % 120 / 20 : Nat) : Int))) M) : E_X10_columnOf [.inl x] M Q := by
  subst ex
  refine ev_X10_columnOf ?_
  refine go_X10_columnOf [] 50 ?_
  exact And.intro (by omega) (And.intro (by omega) h)
set_option maxRecDepth 100000 in
theorem sp_rowOf {m : Nat} {x : Int} {M : mv_M} {Q : mv_R} (ex : x = (m : Int)) (h : Q (some (.inl ((m % 20 : Nat) : Int))) M) : E_X10_rowOf [.inl x] M Q := by
  subst ex
  refine ev_X10_rowOf ?_
  refine go_X10_rowOf [] 50 ?_
  exact And.intro (by omega) h
/-- the smallest difference of a number of one run and one of another -/
def qg_gap (f s o os : Nat) : Nat := max (o - (f + s - 1)) (f - (o + os - 1))
set_option maxRecDepth 100000 in
theorem sp_differenceOfRuns {f s o os : Nat} {x y z w : Int} {M : mv_M} {Q : mv_R} (ex : x = (f : Int)) (ey : y = (s : Int)) (ez : z = (o : Int)) (ew : w = (os : Int)) (hf : f ≤ 400) (hs : 1 ≤ s ∧ s ≤ 400) (ho : o ≤ 400) (hos : 1 ≤ os ∧ os ≤ 400) (h : Q (some (.inl (qg_gap f s o os : Int))) M) : E_X10_differenceOfRuns [.inl x, .inl y, .inl z, .inl w] M Q := by
  subst ex; subst ey; subst ez; subst ew
  refine ev_X10_differenceOfRuns ?_
  refine go_X10_differenceOfRuns [] 50 ?_
  refine And.intro (by omega) (And.intro (by omega) (And.intro (by omega) (And.intro (by omega) ?_)))
  unfold qg_gap at h
  refine And.intro (fun c1 => ?_) (fun c1 => ?_)
  · refine And.intro (fun c2 => ?_) (fun c2 => ?_)
    · have e : ((max (o - (f + s - 1)) (f - (o + os - 1)) : Nat) : Int) = 0 := by omega
      rw [e] at h
      exact h
    · refine And.intro (by omega) ?_
      have e : ((max (o - (f + s - 1)) (f - (o + os - 1)) : Nat) : Int) = (f : Int) - ((o : Int) + (os : Int) - 1) := by omega
      rw [e] at h
      exact h
  · refine And.intro (by omega) ?_
    have e : ((max (o - (f + s - 1)) (f - (o + os - 1)) : Nat) : Int) = (o : Int) - ((f : Int) + (s : Int) - 1) := by omega
    rw [e] at h
    exact h
