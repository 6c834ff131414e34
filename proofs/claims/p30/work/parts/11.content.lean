/-! The class: articles, quotes, contents. -/
theorem qg_take {α : Type} {l : List α} {i : Nat} {x : α} (h : l[i]? = some x) : l.take (i + 1) = l.take i ++ [x] := by
  rw [List.take_succ, h]; rfl
theorem qg_some {α : Type} {l : List α} {i : Nat} (h : i < l.length) : ∃ x, l[i]? = some x := ⟨_, List.getElem?_eq_getElem h⟩
-- Article
set_option maxRecDepth 100000 in
theorem sp_X0_copyFrom {a b : Nat} {A : qg_A} {M : mv_M} {Q : mv_R} (hA : qr_A M b A) (hw : A.2.2.length ≤ 8) (h : ∀ M', qr_A M' a A → mv_off (fun t j => (t = 0 ∨ t = 15) ∧ j = a) M M' → Q none M') : E_X0_copyFrom [.inr (0, a), .inr (0, b)] M Q := by
  refine ev_X0_copyFrom ?_
  refine go_X0_copyFrom [] 50 ?_
  refine And.intro (by decide) (h _ ⟨?_, ?_, ?_, ?_⟩ ⟨?_, rfl⟩)
  · simp [mv_cp, mv_up, hA.1]
  · simp [mv_cp, mv_up, hA.2.1]
  · simp [mv_cp, mv_up, hA.2.2.1]
  · intro k l hk
    have h1 := (List.getElem?_eq_some_iff.mp hk).1
    have h2 : k < 8 := by omega
    simp [mv_cp, mv_up, hA.2.2.2 k l hk, h2]
  · intro t j k hf
    have hz : ¬ (t = 0 ∧ j = a) := fun z => hf ⟨Or.inl z.1, z.2⟩
    have hz2 : ¬ (t = 15 ∧ j = a) := fun z => hf ⟨Or.inr z.1, z.2⟩
    show mv_cp (mv_up (mv_up (mv_up M.1 0 a 1 _) 0 a 2 _) 0 a 3 _) 15 b 0 15 a 0 8 t j k = M.1 t j k
    rw [mv_cp, if_neg (fun z => hz2 ⟨z.1, z.2.1⟩), mv_up_ne (fun z => hz ⟨z.1, z.2.1⟩), mv_up_ne (fun z => hz ⟨z.1, z.2.1⟩), mv_up_ne (fun z => hz ⟨z.1, z.2.1⟩)]
set_option maxRecDepth 100000 in
theorem sp_X0_newSentence {a l : Nat} {A : qg_A} {M : mv_M} {Q : mv_R} (hA : qr_A M a A) (hw : A.2.2.length < 8) (h : ∀ M', qr_A M' a (A.1, A.2.1, A.2.2 ++ [l]) → mv_off (fun t j => (t = 0 ∨ t = 15) ∧ j = a) M M' → Q (some (.inl (A.2.2.length : Int))) M') : E_X0_newSentence [.inr (0, a), .inl (l : Int)] M Q := by
  refine ev_X0_newSentence ?_
  refine go_X0_newSentence [] 50 ?_
  have e3 := hA.2.2.1
  refine And.intro (fun c1 => ?_) (fun c1 => absurd c1 (by omega))
  refine And.intro (by omega) ?_
  refine And.intro (by simp [mv_up]; omega) ?_
  refine And.intro (by simp [mv_up]; omega) ?_
  have hz : ∀ M', qr_A M' a (A.1, A.2.1, A.2.2 ++ [l]) → mv_off (fun t j => (t = 0 ∨ t = 15) ∧ j = a) M M' → M'.1 0 a 3 - 1 = (A.2.2.length : Int) → Q (some (.inl (M'.1 0 a 3 - 1))) M' := fun M' h1 h2 h3 => by rw [h3]; exact h M' h1 h2
  refine hz _ ⟨?_, ?_, ?_, ?_⟩ ((mv_off.rf.up ⟨Or.inr rfl, rfl⟩).up ⟨Or.inl rfl, rfl⟩) ?_
  · simp [mv_up, hA.1]
  · simp [mv_up, hA.2.1]
  · simp [mv_up, hA.2.2.1]
  · intro k m hk
    have hk2 : (A.2.2 ++ [l])[k]? = some m := hk
    rw [e3]
    by_cases h1 : k < A.2.2.length
    · rw [List.getElem?_append_left h1] at hk2
      have hne : ¬ k = A.2.2.length := by omega
      simp [mv_up, hA.2.2.2 k m hk2, hne]
    · rw [List.getElem?_append_right (by omega)] at hk2
      have h0 : k = A.2.2.length := by
        have := (List.getElem?_eq_some_iff.mp hk2).1
        simp at this
        omega
      subst h0
      simp at hk2
      subst hk2
      simp [mv_up]
  · simp [mv_up, e3]
set_option maxRecDepth 100000 in
theorem sp_X0_leastLength {a : Nat} {A : qg_A} {M : mv_M} {Q : mv_R} (hA : qr_A M a A) (hw : qg_wA A) (h : ∀ r : Int, 1 ≤ r → r ≤ 200 → (∀ v : Int, r ≤ v ↔ 1 ≤ v ∧ ∀ l ∈ A.2.2, (l : Int) < v) → Q (some (.inl r)) M) : E_X0_leastLength [.inr (0, a)] M Q := by
  refine ev_X0_leastLength ?_
  refine go_X0_leastLength [4] 50 ?_
  have hl : ∀ (i : Nat) (s : Int), i ≤ A.2.2.length → (1 ≤ s ∧ s ≤ 200 ∧ ∀ v : Int, s ≤ v ↔ 1 ≤ v ∧ ∀ l ∈ A.2.2.take i, (l : Int) < v) → J_X0_leastLength Q 4 [some (.inr (0, a)), some (.inl s), some (.inl (i : Int))] [] M := by
    refine mv_loop A.2.2.length (fun i s hi ih hs => ?_)
    refine go_X0_leastLength [4] 50 ?_
    have e3 := hA.2.2.1
    have h8 := hw.2.2.2.1
    refine And.intro (fun c1 => ?_) (fun c1 => ?_)
    · have hi2 : i = A.2.2.length := by omega
      subst hi2
      rw [List.take_length] at hs
      exact h s hs.1 hs.2.1 hs.2.2
    · have hlt : i < A.2.2.length := by omega
      obtain ⟨x, hx⟩ := qg_some hlt
      have hx1 : M.1 15 a i = (x : Int) := hA.2.2.2 i x hx
      have hx2 : x < A.2.1 := hw.2.2.2.2 x (List.mem_of_getElem? hx)
      have h2 := hw.2.2.1
      refine And.intro (by omega) ?_
      refine And.intro (by simp only [Int.toNat_natCast, hx1]; omega) ?_
      refine And.intro (by omega) ?_
      simp only [Int.toNat_natCast, hx1]
      refine ih _ hlt ⟨by omega, by omega, fun v => ?_⟩
      rw [qg_take hx]
      constructor
      · intro hv
        have h3 := (hs.2.2 v).mp (by omega)
        refine ⟨h3.1, fun l hl => ?_⟩
        rcases List.mem_append.mp hl with q | q
        · exact h3.2 l q
        · rw [List.mem_singleton.mp q]; omega
      · rintro ⟨h1, h3⟩
        have h4 := (hs.2.2 v).mpr ⟨h1, fun l hl => h3 l (List.mem_append_left _ hl)⟩
        have h5 := h3 x (List.mem_append_right _ List.mem_cons_self)
        omega
  exact hl 0 1 (Nat.zero_le _) ⟨by omega, by omega, fun v => by simp⟩
-- Quote
theorem qr_P01 {M : mv_M} {j : Nat} {o : Option (Nat × Nat × Nat)} (h : qr_P M j o) : M.1 5 j 4 = 0 ∨ M.1 5 j 4 = 1 := by
  cases o with
  | none => exact Or.inl h
  | some p => exact Or.inr h.1
set_option maxRecDepth 100000 in
theorem sp_X5_copyFrom {a b : Nat} {q : qg_Q} {M : mv_M} {Q : mv_R} (hq : qr_Q M b q) (h : ∀ M', qr_Q M' a q → mv_off (fun t j => t = 5 ∧ j = a) M M' → Q none M') : E_X5_copyFrom [.inr (5, a), .inr (5, b)] M Q := by
  refine ev_X5_copyFrom ?_
  refine go_X5_copyFrom [] 50 ?_
  have h01 := qr_P01 hq.2.2.2.2
  refine And.intro (by simpa [mv_up] using h01) (h _ ⟨?_, ?_, ?_, ?_, ?_⟩ ⟨?_, rfl⟩)
  · simp [mv_up, hq.1]
  · simp [mv_up, hq.2.1]
  · simp [mv_up, hq.2.2.1]
  · simp [mv_up, hq.2.2.2.1]
  · have hp := hq.2.2.2.2
    cases ho : q.2.2.2.2 with
    | none =>
      rw [ho] at hp
      have hp : M.1 5 b 4 = 0 := hp
      show _ = (0 : Int)
      simp [mv_up, hp]
    | some p =>
      rw [ho] at hp
      obtain ⟨p1, p2, p3, p4⟩ := (hp : M.1 5 b 4 = 1 ∧ M.1 5 b 5 = (p.1 : Int) ∧ M.1 5 b 6 = (p.2.1 : Int) ∧ M.1 5 b 7 = (p.2.2 : Int))
      refine ⟨?_, ?_, ?_, ?_⟩ <;> simp [mv_up, p1, p2, p3, p4]
  · intro t j k hf
    simp only
    rw [mv_up_ne (fun z => hf ⟨z.1, z.2.1⟩), mv_up_ne (fun z => hf ⟨z.1, z.2.1⟩), mv_up_ne (fun z => hf ⟨z.1, z.2.1⟩), mv_up_ne (fun z => hf ⟨z.1, z.2.1⟩), mv_up_ne (fun z => hf ⟨z.1, z.2.1⟩), mv_up_ne (fun z => hf ⟨z.1, z.2.1⟩), mv_up_ne (fun z => hf ⟨z.1, z.2.1⟩), mv_up_ne (fun z => hf ⟨z.1, z.2.1⟩)]
abbrev qg_at (m : Nat) : Nat × Nat × Nat := (m / 120, m % 120 / 20, m % 20)
abbrev qg_mv (q : qg_Q) (o : Option (Nat × Nat × Nat)) : qg_Q := (q.1, q.2.1, q.2.2.1, q.2.2.2.1, o)
set_option maxRecDepth 100000 in
theorem sp_X5_moveTo {a m : Nat} {x : Int} {q : qg_Q} {M : mv_M} {Q : mv_R} (ex : x = (m : Int)) (hq : qr_Q M a q) (h : ∀ M', qr_Q M' a (qg_mv q (some (qg_at m))) → mv_off (fun t j => t = 5 ∧ j = a) M M' → Q none M') : E_X5_moveTo [.inr (5, a), .inl x] M Q := by
  subst ex
  refine ev_X5_moveTo ?_
  refine go_X5_moveTo [] 50 ?_
  refine And.intro (Or.inr rfl) ?_
  refine sp_pageOf rfl ?_
  refine sp_columnOf rfl ?_
  refine sp_rowOf rfl ?_
  refine h _ ⟨?_, ?_, ?_, ?_, ?_, ?_, ?_, ?_⟩ ((((mv_off.rf.up ⟨rfl, rfl⟩).up ⟨rfl, rfl⟩).up ⟨rfl, rfl⟩).up ⟨rfl, rfl⟩)
  · simp [mv_up, hq.1]
  · simp [mv_up, hq.2.1]
  · simp [mv_up, hq.2.2.1]
  · simp [mv_up, hq.2.2.2.1]
  · simp [mv_up]
  · simp [mv_up]
  · simp [mv_up]
  · simp [mv_up]
/-- the modules of a quote in the left half less those in the right half -/
def qg_lean (w h c : Nat) : Int := (2 * ((min w (3 - c) : Nat) : Int) - (w : Int)) * (h : Int)
theorem qg_mul6 {x : Int} {h : Nat} (hx : -3 ≤ x ∧ x ≤ 3) (hh : h ≤ 6) : -18 ≤ x * (h : Int) ∧ x * (h : Int) ≤ 18 := by
  have : h = 0 ∨ h = 1 ∨ h = 2 ∨ h = 3 ∨ h = 4 ∨ h = 5 ∨ h = 6 := by omega
  rcases this with rfl | rfl | rfl | rfl | rfl | rfl | rfl <;> constructor <;> omega
theorem qg_lean_b {w h c : Nat} (hw : w ≤ 3) (hh : h ≤ 6) : -18 ≤ qg_lean w h c ∧ qg_lean w h c ≤ 18 := by
  unfold qg_lean
  exact qg_mul6 (by omega) hh
set_option maxRecDepth 100000 in
theorem sp_X5_leaning {a : Nat} {q : qg_Q} {p : Nat × Nat × Nat} {M : mv_M} {Q : mv_R} (hq : qr_Q M a q) (hw : qg_wQ q) (hp : q.2.2.2.2 = some p) (h : Q (some (.inl (qg_lean q.2.2.1 q.2.2.2.1 p.2.1))) M) : E_X5_leaning [.inr (5, a)] M Q := by
  refine ev_X5_leaning ?_
  refine go_X5_leaning [] 50 ?_
  have hP := hq.2.2.2.2
  rw [hp] at hP
  have p2 := hw.2.2.2.2 p hp
  have h6 : M.1 5 a 6 = (p.2.1 : Int) := hP.2.2.1
  have h2 : M.1 5 a 2 = (q.2.2.1 : Int) := hq.2.2.1
  have h3 : M.1 5 a 3 = (q.2.2.2.1 : Int) := hq.2.2.2.1
  have w1 := hw.1
  have w2 := hw.2.1
  have w4 := hw.2.2.2.1
  refine And.intro (by omega) ?_
  refine And.intro (by omega) ?_
  refine And.intro (by omega) ?_
  have e : (2 : Int) * max 0 (min (M.1 5 a 2) (3 - M.1 5 a 6)) - M.1 5 a 2 = 2 * ((min q.2.2.1 (3 - p.2.1) : Nat) : Int) - (q.2.2.1 : Int) := by rw [h2, h6]; omega
  have hb := qg_lean_b (c := p.2.1) w2 w4
  unfold qg_lean at h hb
  rw [← e, ← h3] at h hb
  exact And.intro (by omega) h
set_option maxRecDepth 100000 in
theorem sp_X5_distanceFromModule {a m : Nat} {q : qg_Q} {p : Nat × Nat × Nat} {M : mv_M} {Q : mv_R} (hq : qr_Q M a q) (hw : qg_wQ q) (hp : q.2.2.2.2 = some p) (h : Q (some (.inl ((max (qg_gap p.2.1 q.2.2.1 (m % 120 / 20) 1) (qg_gap p.2.2 q.2.2.2.1 (m % 20) 1) : Nat) : Int))) M) : E_X5_distanceFromModule [.inr (5, a), .inl (m : Int)] M Q := by
  refine ev_X5_distanceFromModule ?_
  refine go_X5_distanceFromModule [] 50 ?_
  have hP := hq.2.2.2.2
  rw [hp] at hP
  have p2 := hw.2.2.2.2 p hp
  have w1 := hw.1
  have w2 := hw.2.1
  have w3 := hw.2.2.1
  have w4 := hw.2.2.2.1
  refine sp_columnOf rfl ?_
  refine sp_differenceOfRuns (os := 1) hP.2.2.1 hq.2.2.1 rfl rfl (by omega) (by omega) (by omega) (by omega) ?_
  refine sp_rowOf rfl ?_
  refine sp_differenceOfRuns (os := 1) hP.2.2.2 hq.2.2.2.1 rfl rfl (by omega) (by omega) (by omega) (by omega) ?_
  have e : ((max (qg_gap p.2.1 q.2.2.1 (m % 120 / 20) 1) (qg_gap p.2.2 q.2.2.2.1 (m % 20) 1) : Nat) : Int) = max (qg_gap p.2.1 q.2.2.1 (m % 120 / 20) 1 : Int) (qg_gap p.2.2 q.2.2.2.1 (m % 20) 1 : Int) := by omega
  rw [e] at h
  exact h
set_option maxRecDepth 100000 in
theorem sp_X5_distanceFromQuote {a b : Nat} {q r : qg_Q} {p o : Nat × Nat × Nat} {M : mv_M} {Q : mv_R} (hq : qr_Q M a q) (hw : qg_wQ q) (hp : q.2.2.2.2 = some p) (hr : qr_Q M b r) (hv : qg_wQ r) (ho : r.2.2.2.2 = some o)
    (h : Q (some (.inl ((max (qg_gap p.2.1 q.2.2.1 o.2.1 r.2.2.1) (qg_gap p.2.2 q.2.2.2.1 o.2.2 r.2.2.2.1) : Nat) : Int))) M) : E_X5_distanceFromQuote [.inr (5, a), .inr (5, b)] M Q := by
  refine ev_X5_distanceFromQuote ?_
  refine go_X5_distanceFromQuote [] 50 ?_
  have hP := hq.2.2.2.2
  rw [hp] at hP
  have hO := hr.2.2.2.2
  rw [ho] at hO
  have p2 := hw.2.2.2.2 p hp
  have w1 := hw.1
  have w2 := hw.2.1
  have w3 := hw.2.2.1
  have w4 := hw.2.2.2.1
  have o2 := hv.2.2.2.2 o ho
  have v1 := hv.1
  have v2 := hv.2.1
  have v3 := hv.2.2.1
  have v4 := hv.2.2.2.1
  refine sp_differenceOfRuns hP.2.2.1 hq.2.2.1 hO.2.2.1 hr.2.2.1 (by omega) (by omega) (by omega) (by omega) ?_
  refine sp_differenceOfRuns hP.2.2.2 hq.2.2.2.1 hO.2.2.2 hr.2.2.2.1 (by omega) (by omega) (by omega) (by omega) ?_
  have e : ((max (qg_gap p.2.1 q.2.2.1 o.2.1 r.2.2.1) (qg_gap p.2.2 q.2.2.2.1 o.2.2 r.2.2.2.1) : Nat) : Int) = max (qg_gap p.2.1 q.2.2.1 o.2.1 r.2.2.1 : Int) (qg_gap p.2.2 q.2.2.2.1 o.2.2 r.2.2.2.1 : Int) := by omega
  rw [e] at h
  exact h
