/-! Reading items: the mathematics. -/
def qp_addS (C : qg_C) (a l : Nat) : qg_C := match C.1[a]? with
  | none => C
  | some A => (C.1.set a (A.1, A.2.1, A.2.2 ++ [l]), C.2)
theorem qp_addS_eq {C : qg_C} {a : Nat} {A : qg_A} (h : C.1[a]? = some A) (l : Nat) : qp_addS C a l = (C.1.set a (A.1, A.2.1, A.2.2 ++ [l]), C.2) := by
  unfold qp_addS; rw [h]
def qp_lines (tx : List Nat) (a : Nat) : Nat → Nat → qg_C → Nat ⊕ (Nat × qg_C)
  | 0, p, _ => .inl (qp_skip tx p)
  | n + 1, p, C => match C.1[a]? with
    | none => .inl (qp_skip tx p)
    | some A => if A.2.2.length < 8 then (match qp_num tx 0 ((A.2.1 : Int) - 1) p with
      | none => .inl (qp_skip tx p)
      | some (v, e) => if qp_at tx (qp_skip tx e) = 44 then qp_lines tx a n (qp_skip tx e + 1) (qp_addS C a v) else .inr (qp_skip tx e, qp_addS C a v)) else .inl (qp_skip tx p)
theorem qp_lines_succ (tx : List Nat) (a n p : Nat) (C : qg_C) : qp_lines tx a (n + 1) p C = match C.1[a]? with
    | none => .inl (qp_skip tx p)
    | some A => if A.2.2.length < 8 then (match qp_num tx 0 ((A.2.1 : Int) - 1) p with
      | none => .inl (qp_skip tx p)
      | some (v, e) => if qp_at tx (qp_skip tx e) = 44 then qp_lines tx a n (qp_skip tx e + 1) (qp_addS C a v) else .inr (qp_skip tx e, qp_addS C a v)) else .inl (qp_skip tx p) := rfl
def qp_article (tx : List Nat) (p : Nat) (C : qg_C) : Nat ⊕ (Nat × qg_C) := match qp_num tx 0 359 p with
  | none => .inl (qp_skip tx p)
  | some (s, e) => match qp_num tx 1 200 e with
    | none => .inl (qp_skip tx e)
    | some (l, e2) => if qp_at tx (qp_skip tx e2) = 58 then qp_lines tx C.1.length 9 (qp_skip tx e2 + 1) (C.1 ++ [(s, l, [])], C.2) else .inr (qp_skip tx e2, (C.1 ++ [(s, l, [])], C.2))
def qp_nS (C : qg_C) (a : Nat) : Nat := (C.1.getD a (0, 0, [])).2.2.length
def qp_quote (tx : List Nat) (p : Nat) (C : qg_C) : Nat ⊕ (Nat × qg_C) := match qp_num tx 0 ((C.1.length : Int) - 1) p with
  | none => .inl (qp_skip tx p)
  | some (a, e) => match qp_num tx 0 ((qp_nS C a : Int) - 1) e with
    | none => .inl (qp_skip tx e)
    | some (s, e2) => match qp_num tx 1 3 e2 with
      | none => .inl (qp_skip tx e2)
      | some (w, e3) => if qp_at tx (qp_skip tx e3) = 120 then (match qp_num tx 1 6 (qp_skip tx e3 + 1) with
        | none => .inl (qp_skip tx (qp_skip tx e3 + 1))
        | some (h, e5) => .inr (e5, (C.1, C.2.1 ++ [(a, s, w, h, none)], C.2.2))) else .inl (qp_skip tx e3)
def qp_semi (tx : List Nat) (r : Nat ⊕ (Nat × qg_C)) : Nat ⊕ (Nat × qg_C) := match r with
  | .inl f => .inl f
  | .inr (p, C) => if qp_at tx (qp_skip tx p) = 59 then .inr (qp_skip tx p + 1, C) else .inl (qp_skip tx p)
def qp_item (tx : List Nat) (s : Nat) (C : qg_C) : Nat ⊕ (Nat × qg_C) :=
  if qp_at tx s = 97 ∧ C.1.length < 6 then qp_semi tx (qp_article tx (s + 1) C) else if qp_at tx s = 113 ∧ C.2.1.length < 8 then qp_semi tx (qp_quote tx (s + 1) C) else .inl s
def qp_items (tx : List Nat) : Nat → Nat → qg_C → Nat → Nat ⊕ (Nat × qg_C)
  | 0, _, C, k => .inr (k, C)
  | n + 1, p, C, k => if qp_at tx (qp_skip tx p) = 0 then .inr (k, C) else match qp_item tx (qp_skip tx p) C with
    | .inl f => .inl f
    | .inr (e, C') => qp_items tx n e C' (k + 1)
theorem qp_items_succ (tx : List Nat) (n p : Nat) (C : qg_C) (k : Nat) : qp_items tx (n + 1) p C k = if qp_at tx (qp_skip tx p) = 0 then .inr (k, C) else match qp_item tx (qp_skip tx p) C with
    | .inl f => .inl f
    | .inr (e, C') => qp_items tx n e C' (k + 1) := rfl
theorem qp_at_lt {tx : List Nat} {p : Nat} (h : qp_at tx p ≠ 0) : p < tx.length := by
  rcases Nat.lt_or_ge p tx.length with z | z
  · exact z
  · exact absurd (qp_at_out z) h
theorem qg_wC_addS {C : qg_C} (hw : qg_wC C) {a l : Nat} {A : qg_A} (hA : C.1[a]? = some A) (h8 : A.2.2.length < 8) (hl : l < A.2.1) : qg_wC (qp_addS C a l) := by
  have hwA := hw.2.2.1 A (List.mem_of_getElem? hA)
  rw [qp_addS_eq hA]
  refine ⟨by show (C.1.set _ _).length ≤ 6; rw [List.length_set]; exact hw.1, hw.2.1, fun x hx => ?_, fun q hq => ⟨(hw.2.2.2.1 q hq).1, qg_own_setS hA (by simp) (hw.2.2.2.1 q hq).2⟩, hw.2.2.2.2⟩
  rcases List.mem_or_eq_of_mem_set (show x ∈ C.1.set _ _ from hx) with hx | hx
  · exact hw.2.2.1 x hx
  · rw [hx]
    refine ⟨hwA.1, hwA.2.1, hwA.2.2.1, by simp; omega, fun y hy => ?_⟩
    rcases List.mem_append.mp hy with z | z
    · exact hwA.2.2.2.2 y z
    · rw [List.mem_singleton.mp z]; exact hl
/-- the reading has gone on well -/
def qp_ok (tx : List Nat) (p : Nat) (r : Nat ⊕ (Nat × qg_C)) : Prop := match r with
  | .inl f => f ≤ tx.length
  | .inr (e, C) => p ≤ e ∧ e ≤ tx.length ∧ qg_wC C ∧ qg_inC C
theorem qp_addS_at {C : qg_C} {a l : Nat} {A : qg_A} (hA : C.1[a]? = some A) : (qp_addS C a l).1[a]? = some (A.1, A.2.1, A.2.2 ++ [l]) := by
  rw [qp_addS_eq hA]
  show (C.1.set a _)[a]? = _
  rw [List.getElem?_set_self (List.getElem?_eq_some_iff.mp hA).1]
theorem qp_addS_q (C : qg_C) (a l : Nat) : (qp_addS C a l).2 = C.2 := by
  unfold qp_addS
  split <;> rfl
theorem qp_lines_ok (tx : List Nat) (a : Nat) : ∀ n p C, p ≤ tx.length → qg_wC C → qg_inC C → qp_ok tx p (qp_lines tx a n p C)
  | 0, p, C, hp, hw, hi => (qp_skip_ok tx hp).2
  | n + 1, p, C, hp, hw, hi => by
    rw [qp_lines_succ]
    cases hA : C.1[a]? with
    | none => exact (qp_skip_ok tx hp).2
    | some A =>
      dsimp only
      by_cases h8 : A.2.2.length < 8
      · rw [if_pos h8]
        cases hn : qp_num tx 0 ((A.2.1 : Int) - 1) p with
        | none => exact (qp_skip_ok tx hp).2
        | some ve =>
          obtain ⟨v, e⟩ := ve
          have hv := qp_num_ok hn hp
          have hw2 := qg_wC_addS hw hA h8 (l := v) (by omega)
          have hi2 : qg_inC (qp_addS C a v) := by unfold qg_inC; rw [qp_addS_q]; exact hi
          have hs := qp_skip_ok tx hv.2.1
          dsimp only
          by_cases hc : qp_at tx (qp_skip tx e) = 44
          · rw [if_pos hc]
            have hlt := qp_at_lt (show qp_at tx (qp_skip tx e) ≠ 0 by omega)
            have := qp_lines_ok tx a n (qp_skip tx e + 1) (qp_addS C a v) (by omega) hw2 hi2
            unfold qp_ok at this ⊢
            cases hr : qp_lines tx a n (qp_skip tx e + 1) (qp_addS C a v) with
            | inl f => rw [hr] at this; exact this
            | inr x => rw [hr] at this; exact ⟨by have := this.1; omega, this.2⟩
          · rw [if_neg hc]
            exact ⟨by omega, hs.2, hw2, hi2⟩
      · rw [if_neg h8]
        exact (qp_skip_ok tx hp).2
theorem qg_wC_addA {C : qg_C} (hw : qg_wC C) (h6 : C.1.length < 6) {s l : Nat} (hs : s < 360) (h1 : 1 ≤ l) (h2 : l ≤ 200) : qg_wC (C.1 ++ [(s, l, [])], C.2) := by
  refine ⟨by simp; omega, hw.2.1, fun a ha => ?_, fun q hq => ⟨(hw.2.2.2.1 q hq).1, ?_⟩, hw.2.2.2.2⟩
  · rcases List.mem_append.mp ha with z | z
    · exact hw.2.2.1 a z
    · rw [List.mem_singleton.mp z]
      exact ⟨hs, h1, h2, Nat.zero_le _, fun x hx => by cases hx⟩
  · obtain ⟨A, hA, hs⟩ := (hw.2.2.2.1 q hq).2
    exact ⟨A, by rw [List.getElem?_append_left (List.getElem?_eq_some_iff.mp hA).1]; exact hA, hs⟩
theorem qg_wC_addQ {C : qg_C} (hw : qg_wC C) (h8 : C.2.1.length < 8) {a s w h : Nat} (ho : qg_own C.1 (a, s, w, h, none)) (h1 : 1 ≤ w) (h2 : w ≤ 3) (h3 : 1 ≤ h) (h4 : h ≤ 6) : qg_wC (C.1, C.2.1 ++ [(a, s, w, h, none)], C.2.2) := by
  refine ⟨hw.1, by simp; omega, hw.2.2.1, fun q hq => ?_, hw.2.2.2.2⟩
  rcases List.mem_append.mp hq with z | z
  · exact hw.2.2.2.1 q z
  · rw [List.mem_singleton.mp z]
    exact ⟨⟨h1, h2, h3, h4, fun p hp => by cases hp⟩, ho⟩
theorem qp_article_ok {tx : List Nat} {p : Nat} {C : qg_C} (hp : p ≤ tx.length) (hw : qg_wC C) (hi : qg_inC C) (h6 : C.1.length < 6) : qp_ok tx p (qp_article tx p C) := by
  unfold qp_article
  cases h1 : qp_num tx 0 359 p with
  | none => exact (qp_skip_ok tx hp).2
  | some se =>
    obtain ⟨s, e⟩ := se
    have k1 := qp_num_ok h1 hp
    dsimp only
    cases h2 : qp_num tx 1 200 e with
    | none => exact (qp_skip_ok tx k1.2.1).2
    | some le =>
      obtain ⟨l, e2⟩ := le
      have k2 := qp_num_ok h2 k1.2.1
      have hs := qp_skip_ok tx k2.2.1
      have hw2 := qg_wC_addA hw h6 (s := s) (l := l) (by omega) (by omega) (by omega)
      dsimp only
      by_cases hc : qp_at tx (qp_skip tx e2) = 58
      · rw [if_pos hc]
        have hlt := qp_at_lt (show qp_at tx (qp_skip tx e2) ≠ 0 by omega)
        have := qp_lines_ok tx C.1.length 9 (qp_skip tx e2 + 1) (C.1 ++ [(s, l, [])], C.2) (by omega) hw2 hi
        unfold qp_ok at this ⊢
        cases hr : qp_lines tx C.1.length 9 (qp_skip tx e2 + 1) (C.1 ++ [(s, l, [])], C.2) with
        | inl f => rw [hr] at this; exact this
        | inr x => rw [hr] at this; exact ⟨by have := this.1; omega, this.2⟩
      · rw [if_neg hc]
        exact ⟨by omega, hs.2, hw2, hi⟩
theorem qp_nS_own {C : qg_C} {a s : Nat} (ha : a < C.1.length) (hs : s < qp_nS C a) (w h : Nat) : qg_own C.1 (a, s, w, h, none) := by
  obtain ⟨A, hA⟩ := qg_some ha
  refine ⟨A, hA, ?_⟩
  unfold qp_nS at hs
  rw [List.getD_eq_getElem?_getD, hA] at hs
  exact hs
theorem qp_quote_ok {tx : List Nat} {p : Nat} {C : qg_C} (hp : p ≤ tx.length) (hw : qg_wC C) (hi : qg_inC C) (h8 : C.2.1.length < 8) : qp_ok tx p (qp_quote tx p C) := by
  unfold qp_quote
  cases h1 : qp_num tx 0 ((C.1.length : Int) - 1) p with
  | none => exact (qp_skip_ok tx hp).2
  | some x1 =>
    obtain ⟨a, e⟩ := x1
    have k1 := qp_num_ok h1 hp
    dsimp only
    cases h2 : qp_num tx 0 ((qp_nS C a : Int) - 1) e with
    | none => exact (qp_skip_ok tx k1.2.1).2
    | some x2 =>
      obtain ⟨s, e2⟩ := x2
      have k2 := qp_num_ok h2 k1.2.1
      dsimp only
      cases h3 : qp_num tx 1 3 e2 with
      | none => exact (qp_skip_ok tx k2.2.1).2
      | some x3 =>
        obtain ⟨w, e3⟩ := x3
        have k3 := qp_num_ok h3 k2.2.1
        have hs := qp_skip_ok tx k3.2.1
        dsimp only
        by_cases hc : qp_at tx (qp_skip tx e3) = 120
        · rw [if_pos hc]
          have hlt := qp_at_lt (show qp_at tx (qp_skip tx e3) ≠ 0 by omega)
          cases h4 : qp_num tx 1 6 (qp_skip tx e3 + 1) with
          | none => exact (qp_skip_ok tx (show qp_skip tx e3 + 1 ≤ tx.length by omega)).2
          | some x4 =>
            obtain ⟨h, e5⟩ := x4
            have k4 := qp_num_ok h4 (by omega)
            refine ⟨by show p ≤ e5; omega, k4.2.1, qg_wC_addQ hw h8 (qp_nS_own (by omega) (by omega) w h) (by omega) (by omega) (by omega) (by omega), fun q hq => ?_⟩
            rcases List.mem_append.mp hq with z | z
            · exact hi q z
            · rw [List.mem_singleton.mp z]
              exact qg_inQ_none rfl
        · rw [if_neg hc]
          exact hs.2
theorem qp_semi_ok {tx : List Nat} {p : Nat} {r : Nat ⊕ (Nat × qg_C)} (h : qp_ok tx p r) : qp_ok tx (p + 1) (qp_semi tx r) := by
  unfold qp_semi
  cases r with
  | inl f => exact h
  | inr x =>
    obtain ⟨e, C⟩ := x
    obtain ⟨h1, h2, h3, h4⟩ := h
    have hs := qp_skip_ok tx h2
    dsimp only
    by_cases hc : qp_at tx (qp_skip tx e) = 59
    · rw [if_pos hc]
      have hlt := qp_at_lt (show qp_at tx (qp_skip tx e) ≠ 0 by omega)
      exact ⟨by show p + 1 ≤ qp_skip tx e + 1; omega, by show qp_skip tx e + 1 ≤ tx.length; omega, h3, h4⟩
    · rw [if_neg hc]
      exact hs.2
theorem qp_item_ok {tx : List Nat} {s : Nat} {C : qg_C} (hp : s ≤ tx.length) (hw : qg_wC C) (hi : qg_inC C) : qp_ok tx (s + 2) (qp_item tx s C) := by
  unfold qp_item
  by_cases h1 : qp_at tx s = 97 ∧ C.1.length < 6
  · rw [if_pos h1]
    have hlt := qp_at_lt (show qp_at tx s ≠ 0 by omega)
    exact qp_semi_ok (qp_article_ok (by omega) hw hi h1.2)
  · rw [if_neg h1]
    by_cases h2 : qp_at tx s = 113 ∧ C.2.1.length < 8
    · rw [if_pos h2]
      have hlt := qp_at_lt (show qp_at tx s ≠ 0 by omega)
      exact qp_semi_ok (qp_quote_ok (by omega) hw hi h2.2)
    · rw [if_neg h2]
      exact hp
theorem qp_items_ok {tx : List Nat} : ∀ n p C k, p ≤ tx.length → qg_wC C → qg_inC C → ∀ k' C', qp_items tx n p C k = .inr (k', C') → qg_wC C' ∧ qg_inC C'
  | 0, p, C, k, hp, hw, hi, k', C', h => by
    injection h with h
    injection h with h1 h2
    subst h2
    exact ⟨hw, hi⟩
  | n + 1, p, C, k, hp, hw, hi, k', C', h => by
    rw [qp_items_succ] at h
    by_cases h0 : qp_at tx (qp_skip tx p) = 0
    · rw [if_pos h0] at h
      injection h with h
      injection h with h1 h2
      subst h2
      exact ⟨hw, hi⟩
    · rw [if_neg h0] at h
      have hok := qp_item_ok (qp_skip_ok tx hp).2 hw hi
      cases hr : qp_item tx (qp_skip tx p) C with
      | inl f => rw [hr] at h; cases h
      | inr x =>
        obtain ⟨e, D⟩ := x
        rw [hr] at h hok
        exact qp_items_ok n e D (k + 1) hok.2.1 hok.2.2.1 hok.2.2.2 k' C' h
def op_load (F : qg_F) : Int × qg_F := match qp_items F.2.2 140 0 F.1.1 0 with
  | .inl f => (-1000 - (f : Int), F)
  | .inr (k, C) => ((k : Int), ((C, F.1.2), (qg_act F).2.1, []))
theorem wf_load {F : qg_F} (hw : qg_wF F) : qg_wF (op_load F).2 := by
  unfold op_load
  split
  · exact hw
  · rename_i k C hr
    have h := qp_items_ok 140 0 F.1.1 0 (Nat.zero_le _) hw.1.1.1 hw.1.2.1 k C hr
    have ha := qg_wF_act hw
    exact ⟨⟨⟨h.1, hw.1.1.2⟩, h.2, hw.1.2.2⟩, ha.2.1, ha.2.2.1, Nat.zero_le _, fun s hs => by cases hs⟩
