/-! The reference (class X11): how its rows hold the document's state (rq_), and its first methods. -/
def rq_A (f : Nat → Int) (b : Nat) (a : qg_A) : Prop := f b = (a.1 : Int) ∧ f (b + 1) = (a.2.1 : Int) ∧ f (b + 2) = (a.2.2.length : Int) ∧ ∀ (k l : Nat), a.2.2[k]? = some l → f (b + (3 + k)) = (l : Int)
def rq_P (f : Nat → Int) (b : Nat) (o : Option (Nat × Nat × Nat)) : Prop := match o with
  | none => f (b + 4) = 0
  | some p => f (b + 4) = 1 ∧ f (b + 5) = (p.1 : Int) ∧ f (b + 6) = (p.2.1 : Int) ∧ f (b + 7) = (p.2.2 : Int)
def rq_Q (f : Nat → Int) (b : Nat) (q : qg_Q) : Prop := f b = (q.1 : Int) ∧ f (b + 1) = (q.2.1 : Int) ∧ f (b + 2) = (q.2.2.1 : Int) ∧ f (b + 3) = (q.2.2.2.1 : Int) ∧ rq_P f b q.2.2.2.2
def rq_C (f : Nat → Int) (C : qg_C) : Prop := f 0 = (C.1.length : Int) ∧ f 1 = (C.2.1.length : Int) ∧ (∀ (i : Nat) (a : qg_A), C.1[i]? = some a → rq_A f (5 + 11 * i) a) ∧ (∀ (i : Nat) (q : qg_Q), C.2.1[i]? = some q → rq_Q f (71 + 8 * i) q) ∧ f 2 = (C.2.2.1 : Int) ∧ f 3 = (C.2.2.2.1 : Int) ∧ f 4 = (C.2.2.2.2 : Int)
theorem rq_A.fr {f g : Nat → Int} {b d : Nat} {a : qg_A} (h : rq_A f b a) (hw : a.2.2.length ≤ 8) (h0 : ∀ k, k < 11 → g (d + k) = f (b + k)) : rq_A g d a :=
  ⟨(h0 0 (by omega)).trans h.1, (h0 1 (by omega)).trans h.2.1, (h0 2 (by omega)).trans h.2.2.1, fun k l hk => (h0 (3 + k) (by have := (List.getElem?_eq_some_iff.mp hk).1; omega)).trans (h.2.2.2 k l hk)⟩
theorem rq_P.fr {f g : Nat → Int} {b d : Nat} {o : Option (Nat × Nat × Nat)} (h : rq_P f b o) (h0 : ∀ k, k < 8 → g (d + k) = f (b + k)) : rq_P g d o := by
  cases o with
  | none => exact (h0 4 (by omega)).trans h
  | some p => exact ⟨(h0 4 (by omega)).trans h.1, (h0 5 (by omega)).trans h.2.1, (h0 6 (by omega)).trans h.2.2.1, (h0 7 (by omega)).trans h.2.2.2⟩
theorem rq_Q.fr {f g : Nat → Int} {b d : Nat} {q : qg_Q} (h : rq_Q f b q) (h0 : ∀ k, k < 8 → g (d + k) = f (b + k)) : rq_Q g d q :=
  ⟨(h0 0 (by omega)).trans h.1, (h0 1 (by omega)).trans h.2.1, (h0 2 (by omega)).trans h.2.2.1, (h0 3 (by omega)).trans h.2.2.2.1, h.2.2.2.2.fr h0⟩
theorem rq_C.fr {f g : Nat → Int} {C : qg_C} (h : rq_C f C) (hw : qg_wC C) (h0 : ∀ k, k < 135 → g k = f k) : rq_C g C := by
  refine ⟨(h0 0 (by omega)).trans h.1, (h0 1 (by omega)).trans h.2.1, fun i a ha => (h.2.2.1 i a ha).fr (hw.2.2.1 a (List.mem_of_getElem? ha)).2.2.2.1 (fun k hk => h0 _ ?_), fun i q hq => (h.2.2.2.1 i q hq).fr (fun k hk => h0 _ ?_), (h0 2 (by omega)).trans h.2.2.2.2.1, (h0 3 (by omega)).trans h.2.2.2.2.2.1, (h0 4 (by omega)).trans h.2.2.2.2.2.2⟩
  · have := (List.getElem?_eq_some_iff.mp ha).1
    have := hw.1
    omega
  · have := (List.getElem?_eq_some_iff.mp hq).1
    have := hw.2.1
    omega
theorem rq_C.setQ {f g : Nat → Int} {n : Nat} {C : qg_C} {q : qg_Q} (h : rq_C f C) (hw : qg_wC C) (hn : n < C.2.1.length) (hq : rq_Q g (71 + 8 * n) q) (h0 : ∀ k, ¬ (71 + 8 * n ≤ k ∧ k < 71 + 8 * n + 8) → g k = f k) : rq_C g (C.1, C.2.1.set n q, C.2.2) := by
  have h6 := hw.1
  refine ⟨(h0 0 (by omega)).trans h.1, (h0 1 (by omega)).trans (by rw [h.2.1]; simp), fun i a ha => (h.2.2.1 i a ha).fr (hw.2.2.1 a (List.mem_of_getElem? ha)).2.2.2.1 (fun k hk => h0 _ ?_), fun i r hr => ?_, (h0 2 (by omega)).trans h.2.2.2.2.1, (h0 3 (by omega)).trans h.2.2.2.2.2.1, (h0 4 (by omega)).trans h.2.2.2.2.2.2⟩
  · have := (List.getElem?_eq_some_iff.mp ha).1
    have ha2 : i < C.1.length := this
    omega
  · have hr : (C.2.1.set n q)[i]? = some r := hr
    rw [List.getElem?_set] at hr
    by_cases e : n = i
    · subst e
      rw [if_pos rfl, if_pos hn] at hr
      cases hr
      exact hq
    · rw [if_neg e] at hr
      exact (h.2.2.2.1 i r hr).fr (fun k hk => h0 _ (by omega))
theorem rq_C.setA {f g : Nat → Int} {n : Nat} {C : qg_C} {a : qg_A} (h : rq_C f C) (hw : qg_wC C) (hn : n < C.1.length) (hq : rq_A g (5 + 11 * n) a) (h0 : ∀ k, ¬ (5 + 11 * n ≤ k ∧ k < 5 + 11 * n + 11) → g k = f k) : rq_C g (C.1.set n a, C.2) := by
  have h6 := hw.1
  refine ⟨(h0 0 (by omega)).trans (by rw [h.1]; simp), (h0 1 (by omega)).trans h.2.1, fun i r hr => ?_, fun i q hq => (h.2.2.2.1 i q hq).fr (fun k hk => h0 _ (by omega)), (h0 2 (by omega)).trans h.2.2.2.2.1, (h0 3 (by omega)).trans h.2.2.2.2.2.1, (h0 4 (by omega)).trans h.2.2.2.2.2.2⟩
  have hr : (C.1.set n a)[i]? = some r := hr
  rw [List.getElem?_set] at hr
  by_cases e : n = i
  · subst e
    rw [if_pos rfl, if_pos hn] at hr
    cases hr
    exact hq
  · rw [if_neg e] at hr
    exact (h.2.2.1 i r hr).fr (hw.2.2.1 r (List.mem_of_getElem? hr)).2.2.2.1 (fun k hk => h0 _ (by omega))
theorem rq_C.n0 {f : Nat → Int} {C : qg_C} (h : rq_C f C) : f (0 : Int).toNat = (C.1.length : Int) := h.1
theorem rq_C.n1 {f : Nat → Int} {C : qg_C} (h : rq_C f C) : f (1 : Int).toNat = (C.2.1.length : Int) := h.2.1
theorem rq_C.n2 {f : Nat → Int} {C : qg_C} (h : rq_C f C) : f (2 : Int).toNat = (C.2.2.1 : Int) := h.2.2.2.2.1
theorem rq_C.n3 {f : Nat → Int} {C : qg_C} (h : rq_C f C) : f (3 : Int).toNat = (C.2.2.2.1 : Int) := h.2.2.2.2.2.1
theorem rq_C.n4 {f : Nat → Int} {C : qg_C} (h : rq_C f C) : f (4 : Int).toNat = (C.2.2.2.2 : Int) := h.2.2.2.2.2.2
/-- nothing is written but where P says: tag, place -/
def rr_of (P : Nat → Nat → Prop) (M M' : mv_M) : Prop := (∀ t j k, ¬ P t k → M'.1 t j k = M.1 t j k) ∧ M'.2 = M.2
theorem rr_of.rf {P : Nat → Nat → Prop} {M : mv_M} : rr_of P M M := ⟨fun _ _ _ _ => rfl, rfl⟩
theorem rr_of.tr {P : Nat → Nat → Prop} {M M1 M2 : mv_M} (h : rr_of P M M1) (h2 : rr_of P M1 M2) : rr_of P M M2 := ⟨fun t j k hn => (h2.1 t j k hn).trans (h.1 t j k hn), h2.2.trans h.2⟩
theorem rr_of.wk {P R : Nat → Nat → Prop} {M M1 : mv_M} (h : rr_of P M M1) (hp : ∀ t k, P t k → R t k) : rr_of R M M1 := ⟨fun t j k hn => h.1 t j k (fun z => hn (hp t k z)), h.2⟩
theorem rr_of.up {P : Nat → Nat → Prop} {M M1 : mv_M} (h : rr_of P M M1) {t j k : Nat} {x : Int} (hp : P t k) : rr_of P M (mv_up M1.1 t j k x, M1.2) :=
  ⟨fun a b c hn => (mv_nep (fun z => hn (by rw [z.1, z.2.2]; exact hp))).trans (h.1 a b c hn), h.2⟩
-- the statics
set_option maxRecDepth 100000 in
theorem sp_X11_in {v a b : Int} {M : mv_M} {Q : mv_R} (h1 : a ≤ v ∧ v ≤ b → Q (some (.inl 1)) M) (h0 : ¬ (a ≤ v ∧ v ≤ b) → Q (some (.inl 0)) M) : E_X11_in [.inl v, .inl a, .inl b] M Q := by
  refine ev_X11_in ?_
  refine go_X11_in [] 60 ?_
  refine And.intro (fun c1 => And.intro (Or.inl rfl) (h0 (by omega))) (fun c1 => ?_)
  exact And.intro (fun c2 => And.intro (Or.inl rfl) (h0 (by omega))) (fun c2 => And.intro (Or.inr rfl) (h1 (by omega)))
set_option maxRecDepth 100000 in
theorem sp_X11_more {x y : Int} {M : mv_M} {Q : mv_R} (h : Q (some (.inl (max x y))) M) : E_X11_more [.inl x, .inl y] M Q := by
  refine ev_X11_more ?_
  refine go_X11_more [] 60 ?_
  refine And.intro (fun c1 => ?_) (fun c1 => ?_)
  · rw [show max x y = y by omega] at h
    exact h
  · rw [show max x y = x by omega] at h
    exact h
set_option maxRecDepth 100000 in
theorem sp_X11_apart {x y : Int} {M : mv_M} {Q : mv_R} (hx : -1000 ≤ x ∧ x ≤ 1000) (hy : -1000 ≤ y ∧ y ≤ 1000) (h : Q (some (.inl (if y ≤ x then x - y else y - x))) M) : E_X11_apart [.inl x, .inl y] M Q := by
  refine ev_X11_apart ?_
  refine go_X11_apart [] 60 ?_
  refine And.intro (fun c1 => ?_) (fun c1 => ?_)
  · rw [if_pos (by omega)] at h
    exact And.intro (by omega) h
  · rw [if_neg (by omega)] at h
    exact And.intro (by omega) h
set_option maxRecDepth 100000 in
theorem sp_X11_gap {f s o os : Nat} {x y z w : Int} {M : mv_M} {Q : mv_R} (ex : x = (f : Int)) (ey : y = (s : Int)) (ez : z = (o : Int)) (ew : w = (os : Int)) (hf : f ≤ 400) (hs : 1 ≤ s ∧ s ≤ 400) (ho : o ≤ 400) (hos : 1 ≤ os ∧ os ≤ 400) (h : Q (some (.inl (qg_gap f s o os : Int))) M) : E_X11_gap [.inl x, .inl y, .inl z, .inl w] M Q := by
  subst ex; subst ey; subst ez; subst ew
  refine ev_X11_gap ?_
  refine go_X11_gap [] 60 ?_
  refine And.intro (by omega) (And.intro (by omega) (And.intro (by omega) (And.intro (by omega) (And.intro (by omega) (And.intro (by omega) ?_)))))
  refine sp_X11_more ?_
  refine sp_X11_more ?_
  have e : ((qg_gap f s o os : Nat) : Int) = max 0 (max ((o : Int) - ((f : Int) + (s : Int) - 1)) ((f : Int) - ((o : Int) + (os : Int) - 1))) := by unfold qg_gap; omega
  rw [e] at h
  exact h
set_option maxRecDepth 100000 in
theorem sp_X11_isPlace {p c r : Int} {M : mv_M} {Q : mv_R} (h1 : (0 ≤ p ∧ p ≤ 2) ∧ (0 ≤ c ∧ c ≤ 5) ∧ (0 ≤ r ∧ r ≤ 19) → Q (some (.inl 1)) M) (h0 : ¬ ((0 ≤ p ∧ p ≤ 2) ∧ (0 ≤ c ∧ c ≤ 5) ∧ (0 ≤ r ∧ r ≤ 19)) → Q (some (.inl 0)) M) : E_X11_isPlace [.inl p, .inl c, .inl r] M Q := by
  refine ev_X11_isPlace ?_
  refine go_X11_isPlace [] 60 ?_
  refine sp_X11_in (fun c1 => mv_t ?_) (fun c1 => mv_f (And.intro (Or.inl rfl) (h0 (by omega))))
  refine sp_X11_in (fun c2 => mv_t ?_) (fun c2 => mv_f (And.intro (Or.inl rfl) (h0 (by omega))))
  refine sp_X11_in (fun c3 => mv_t ?_) (fun c3 => mv_f (And.intro (Or.inl rfl) (h0 (by omega))))
  exact And.intro (Or.inr rfl) (h1 ⟨c1, c2, c3⟩)
-- reading the row
set_option maxRecDepth 100000 in
theorem sp_X11_of {a p : Nat} {x y v : Int} {M : mv_M} {Q : mv_R} (ex : x = (a : Int)) (ey : y = (p : Int)) (hb : 5 + 11 * a + p < 407) (hv : M.1 24 0 (5 + 11 * a + p) = v) (h : Q (some (.inl v)) M) : E_X11_of [.inr (11, 0), .inl x, .inl y] M Q := by
  subst ex; subst ey
  refine ev_X11_of ?_
  refine go_X11_of [] 60 ?_
  refine And.intro (by omega) (And.intro (by omega) (And.intro (by omega) (And.intro (by omega) ?_)))
  have e : 5 + 11 * a + p = (5 + 11 * (a : Int) + (p : Int)).toNat := by omega
  rw [← hv, e] at h
  exact h
set_option maxRecDepth 100000 in
theorem sp_X11_ofQuote {a p : Nat} {x y v : Int} {M : mv_M} {Q : mv_R} (ex : x = (a : Int)) (ey : y = (p : Int)) (hb : 71 + 8 * a + p < 407) (hv : M.1 24 0 (71 + 8 * a + p) = v) (h : Q (some (.inl v)) M) : E_X11_ofQuote [.inr (11, 0), .inl x, .inl y] M Q := by
  subst ex; subst ey
  refine ev_X11_ofQuote ?_
  refine go_X11_ofQuote [] 60 ?_
  refine And.intro (by omega) (And.intro (by omega) (And.intro (by omega) (And.intro (by omega) ?_)))
  have e : 71 + 8 * a + p = (71 + 8 * (a : Int) + (p : Int)).toNat := by omega
  rw [← hv, e] at h
  exact h
set_option maxRecDepth 100000 in
theorem sp_X11_setQuote {a p : Nat} {x y v : Int} {M : mv_M} {Q : mv_R} (ex : x = (a : Int)) (ey : y = (p : Int)) (hb : 71 + 8 * a + p < 407) (h : Q none (mv_up M.1 24 0 (71 + 8 * a + p) v, M.2)) : E_X11_setQuote [.inr (11, 0), .inl x, .inl y, .inl v] M Q := by
  subst ex; subst ey
  refine ev_X11_setQuote ?_
  refine go_X11_setQuote [] 60 ?_
  refine And.intro (by omega) (And.intro (by omega) (And.intro (by omega) (And.intro (by omega) ?_)))
  have e : 71 + 8 * a + p = (71 + 8 * (a : Int) + (p : Int)).toNat := by omega
  rw [e] at h
  exact h
set_option maxRecDepth 100000 in
theorem sp_X11_isArticle {C : qg_C} {v : Int} {M : mv_M} {Q : mv_R} (hC : rq_C (M.1 24 0) C) (hw : C.1.length ≤ 6) (h1 : 0 ≤ v ∧ v < (C.1.length : Int) → Q (some (.inl 1)) M) (h0 : ¬ (0 ≤ v ∧ v < (C.1.length : Int)) → Q (some (.inl 0)) M) : E_X11_isArticle [.inr (11, 0), .inl v] M Q := by
  refine ev_X11_isArticle ?_
  refine go_X11_isArticle [] 60 ?_
  have e := hC.n0
  refine And.intro (by omega) (And.intro (by omega) ?_)
  rw [e]
  exact sp_X11_in (fun c => And.intro (Or.inr rfl) (h1 (by omega))) (fun c => And.intro (Or.inl rfl) (h0 (by omega)))
set_option maxRecDepth 100000 in
theorem sp_X11_isQuote {C : qg_C} {v : Int} {M : mv_M} {Q : mv_R} (hC : rq_C (M.1 24 0) C) (hw : C.2.1.length ≤ 8) (h1 : 0 ≤ v ∧ v < (C.2.1.length : Int) → Q (some (.inl 1)) M) (h0 : ¬ (0 ≤ v ∧ v < (C.2.1.length : Int)) → Q (some (.inl 0)) M) : E_X11_isQuote [.inr (11, 0), .inl v] M Q := by
  refine ev_X11_isQuote ?_
  refine go_X11_isQuote [] 60 ?_
  have e := hC.n1
  refine And.intro (by omega) (And.intro (by omega) ?_)
  rw [e]
  exact sp_X11_in (fun c => And.intro (Or.inr rfl) (h1 (by omega))) (fun c => And.intro (Or.inl rfl) (h0 (by omega)))
set_option maxRecDepth 100000 in
theorem sp_X11_isPlaced {n : Nat} {q : qg_Q} {x : Int} {M : mv_M} {Q : mv_R} (ex : x = (n : Int)) (hn : n < 8) (hq : rq_Q (M.1 24 0) (71 + 8 * n) q) (h1 : ∀ p, q.2.2.2.2 = some p → Q (some (.inl 1)) M) (h0 : q.2.2.2.2 = none → Q (some (.inl 0)) M) : E_X11_isPlaced [.inr (11, 0), .inl x] M Q := by
  refine ev_X11_isPlaced ?_
  refine go_X11_isPlaced [] 60 ?_
  have hP := hq.2.2.2.2
  cases ho : q.2.2.2.2 with
  | none =>
    rw [ho] at hP
    refine sp_X11_ofQuote (p := 4) ex rfl (by omega) hP ?_
    exact And.intro (fun _ => And.intro (Or.inl rfl) (h0 ho)) (fun c => absurd c (by omega))
  | some p =>
    rw [ho] at hP
    refine sp_X11_ofQuote (p := 4) ex rfl (by omega) hP.1 ?_
    exact And.intro (fun c => absurd rfl c) (fun _ => And.intro (Or.inr rfl) (h1 p ho))
set_option maxRecDepth 100000 in
theorem sp_X11_isSentence {C : qg_C} {v l : Int} {M : mv_M} {Q : mv_R} (hC : rq_C (M.1 24 0) C) (hw : qg_wC C) (h1 : qg_hasS C v l → Q (some (.inl 1)) M) (h0 : ¬ qg_hasS C v l → Q (some (.inl 0)) M) : E_X11_isSentence [.inr (11, 0), .inl v, .inl l] M Q := by
  refine ev_X11_isSentence ?_
  refine go_X11_isSentence [] 60 ?_
  have h6 := hw.1
  refine sp_X11_isArticle hC hw.1 (fun c1 => mv_t ?_) (fun c1 => mv_f ?_)
  · obtain ⟨n, A, rfl, hn, hA, ha⟩ := qg_art_some c1
    have h8 := (hw.2.2.1 A (List.mem_of_getElem? hA)).2.2.2.1
    refine sp_X11_of (a := n) (p := 2) rfl rfl (by omega) (hC.2.2.1 n A hA).2.2.1 ?_
    refine And.intro (by omega) ?_
    refine sp_X11_in (fun c2 => mv_t ?_) (fun c2 => mv_f ?_)
    · exact And.intro (Or.inr rfl) (h1 ⟨A, ha, by omega⟩)
    · refine And.intro (Or.inl rfl) (h0 ?_)
      rintro ⟨B, hB, hb⟩
      rw [ha] at hB
      cases hB
      exact c2 (by omega)
  · refine And.intro (Or.inl rfl) (h0 ?_)
    rintro ⟨B, hB, hb⟩
    rw [qg_art_none c1] at hB
    cases hB
