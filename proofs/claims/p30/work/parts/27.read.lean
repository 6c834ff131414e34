/-! Reading the text: the mathematics, and the class's signs and numbers. -/
def qp_at (tx : List Nat) (p : Nat) : Nat := tx.getD p 0
def qp_sk (tx : List Nat) : Nat → Nat → Nat
  | 0, p => p
  | n + 1, p => if qp_at tx p = 32 then qp_sk tx n (p + 1) else p
/-- the place behind the spaces from p on -/
def qp_skip (tx : List Nat) (p : Nat) : Nat := qp_sk tx (tx.length - p) p
def qp_dg (tx : List Nat) : Nat → Nat → Nat → Nat × Nat
  | 0, p, v => (p, v)
  | n + 1, p, v => if 48 ≤ qp_at tx p ∧ qp_at tx p ≤ 57 then qp_dg tx n (p + 1) (v * 10 + (qp_at tx p - 48)) else (p, v)
/-- a number in a range from p on, and the place behind it -/
def qp_num (tx : List Nat) (lo hi : Int) (p : Nat) : Option (Nat × Nat) :=
  if (qp_skip tx p < (qp_dg tx (tx.length - qp_skip tx p) (qp_skip tx p) 0).1 ∧ (qp_at tx (qp_skip tx p) ≠ 48 ∨ (qp_dg tx (tx.length - qp_skip tx p) (qp_skip tx p) 0).1 = qp_skip tx p + 1)) ∧
      lo ≤ ((qp_dg tx (tx.length - qp_skip tx p) (qp_skip tx p) 0).2 : Int) ∧ ((qp_dg tx (tx.length - qp_skip tx p) (qp_skip tx p) 0).2 : Int) ≤ hi then
    some ((qp_dg tx (tx.length - qp_skip tx p) (qp_skip tx p) 0).2, (qp_dg tx (tx.length - qp_skip tx p) (qp_skip tx p) 0).1)
  else none
theorem qp_at_in {tx : List Nat} {p : Nat} (h : p < tx.length) : tx[p]? = some (qp_at tx p) := by
  unfold qp_at
  rw [List.getD_eq_getElem?_getD, List.getElem?_eq_getElem h]; rfl
theorem qp_at_out {tx : List Nat} {p : Nat} (h : tx.length ≤ p) : qp_at tx p = 0 := by
  unfold qp_at
  rw [List.getD_eq_getElem?_getD, List.getElem?_eq_none h]; rfl
theorem qp_sk_ok (tx : List Nat) : ∀ n p, p ≤ qp_sk tx n p ∧ qp_sk tx n p ≤ p + n
  | 0, p => ⟨Nat.le_refl _, Nat.le_refl _⟩
  | n + 1, p => by
    unfold qp_sk
    split
    · have := qp_sk_ok tx n (p + 1); omega
    · omega
theorem qp_skip_ok (tx : List Nat) {p : Nat} (h : p ≤ tx.length) : p ≤ qp_skip tx p ∧ qp_skip tx p ≤ tx.length := by
  have := qp_sk_ok tx (tx.length - p) p
  unfold qp_skip
  omega
theorem qp_dg_ok (tx : List Nat) : ∀ n p v, p ≤ (qp_dg tx n p v).1 ∧ (qp_dg tx n p v).1 ≤ p + n
  | 0, p, v => ⟨Nat.le_refl _, Nat.le_refl _⟩
  | n + 1, p, v => by
    unfold qp_dg
    split
    · have := qp_dg_ok tx n (p + 1) (v * 10 + (qp_at tx p - 48)); omega
    · exact ⟨Nat.le_refl _, by show p ≤ p + (n + 1); omega⟩
theorem qp_num_ok {tx : List Nat} {lo hi : Int} {p v e : Nat} (h : qp_num tx lo hi p = some (v, e)) (hp : p ≤ tx.length) : p < e ∧ e ≤ tx.length ∧ lo ≤ (v : Int) ∧ (v : Int) ≤ hi := by
  unfold qp_num at h
  split at h
  · rename_i hc
    have h1 := qp_skip_ok tx hp
    have h2 := qp_dg_ok tx (tx.length - qp_skip tx p) (qp_skip tx p) 0
    injection h with h
    injection h with h3 h4
    subst h3; subst h4
    exact ⟨by omega, by omega, hc.2.1, hc.2.2⟩
  · cases h
/-- only the reader's place has changed -/
def qr_pos (M M' : mv_M) (s : Nat) : Prop := M'.1 6 0 4 = (s : Int) ∧ (∀ t j k, ¬ (t = 6 ∧ j = 0 ∧ k = 4) → M'.1 t j k = M.1 t j k) ∧ M'.2 = M.2
theorem qr_pos.tr {M M1 M2 : mv_M} {s u : Nat} (h : qr_pos M M1 s) (h2 : qr_pos M1 M2 u) : qr_pos M M2 u := ⟨h2.1, fun t j k hn => (h2.2.1 t j k hn).trans (h.2.1 t j k hn), h2.2.2.trans h.2.2⟩
set_option maxRecDepth 100000 in
theorem sp_X6_hasFailed {M : mv_M} {Q : mv_R} (h1 : ¬ M.1 6 0 3 = -1 → Q (some (.inl 1)) M) (h0 : M.1 6 0 3 = -1 → Q (some (.inl 0)) M) : E_X6_hasFailed [.inr (6, 0)] M Q := by
  refine ev_X6_hasFailed ?_
  refine go_X6_hasFailed [] 60 ?_
  refine And.intro (fun c => And.intro (Or.inl rfl) (h0 c)) (fun c => And.intro (Or.inr rfl) (h1 c))
set_option maxRecDepth 100000 in
theorem sp_X6_nextSign {tx : List Nat} {p : Nat} {M : mv_M} {Q : mv_R} (hT : qr_Tx M tx) (h140 : tx.length ≤ 140) (hp : M.1 6 0 4 = (p : Int)) (hpl : p ≤ tx.length) (h : ∀ M', qr_pos M M' (qp_skip tx p) → Q (some (.inl (qp_at tx (qp_skip tx p) : Int))) M') : E_X6_nextSign [.inr (6, 0)] M Q := by
  refine ev_X6_nextSign ?_
  obtain ⟨s, hs⟩ : ∃ s, s = qp_skip tx p := ⟨_, rfl⟩
  rw [← hs] at h
  have hl : ∀ (k : Nat) (M1 : mv_M), k ≤ tx.length → (qr_pos M M1 k ∧ qp_sk tx (tx.length - k) k = s) → J_X6_nextSign Q 0 [some (.inr (6, 0))] [] M1 := by
    refine mv_loop tx.length (fun k M1 hk ih hI => ?_)
    obtain ⟨⟨e4, hn, h2⟩, hR⟩ := hI
    have eT : M1.1 8 0 1 = (tx.length : Int) := (hn _ _ _ (by omega)).trans hT.1
    have fin : k = s → J_X6_nextSign Q 44 [some (.inr (6, 0))] [] M1 := by
      intro e
      subst e
      refine go_X6_nextSign [] 60 ?_
      refine And.intro (fun c1 => ?_) (fun c1 => ?_)
      · have h0 := h M1 ⟨e4, hn, h2⟩
        rw [qp_at_out (by omega)] at h0
        exact h0
      · refine And.intro (by omega) ?_
        have en : (M1.1 6 0 4).toNat = k := by omega
        rw [en]
        have es : M1.1 19 0 k = (qp_at tx k : Int) := (hn _ _ _ (by omega)).trans (hT.2 k _ (qp_at_in (by omega)))
        have h0 := h M1 ⟨e4, hn, h2⟩
        rw [← es] at h0
        exact h0
    refine go_X6_nextSign [0, 44] 60 ?_
    refine And.intro (fun c1 => fin ?_) (fun c1 => ?_)
    · have : k = tx.length := by omega
      rw [this, Nat.sub_self] at hR
      rw [this]; exact hR
    · have hlt : k < tx.length := by omega
      have hR2 := hR
      rw [show tx.length - k = (tx.length - (k + 1)) + 1 by omega] at hR2
      unfold qp_sk at hR2
      refine And.intro (by omega) ?_
      have en : (M1.1 6 0 4).toNat = k := by omega
      rw [en]
      have es : M1.1 19 0 k = (qp_at tx k : Int) := (hn _ _ _ (by omega)).trans (hT.2 k _ (qp_at_in hlt))
      refine And.intro (fun c2 => fin ?_) (fun c2 => ?_)
      · rw [if_neg (by omega)] at hR2
        exact hR2
      · rw [if_pos (by omega)] at hR2
        refine And.intro (by omega) ?_
        refine ih _ hlt ⟨⟨?_, fun t j i hni => ?_, h2⟩, hR2⟩
        · refine Eq.trans mv_eqp ?_
          omega
        · exact Eq.trans (mv_nep hni) (hn t j i hni)
  exact hl p M hpl ⟨⟨hp, fun _ _ _ _ => rfl, rfl⟩, hs.symm⟩
set_option maxRecDepth 100000 in
theorem sp_X6_isDigit {v : Int} {M : mv_M} {Q : mv_R} (h1 : 48 ≤ v ∧ v ≤ 57 → Q (some (.inl 1)) M) (h0 : ¬ (48 ≤ v ∧ v ≤ 57) → Q (some (.inl 0)) M) : E_X6_isDigit [.inl v] M Q := by
  refine ev_X6_isDigit ?_
  refine go_X6_isDigit [] 60 ?_
  refine sp_isWithin (fun c => And.intro (Or.inr rfl) (h1 c)) (fun c => And.intro (Or.inl rfl) (h0 c))
/-- the reader has failed at f; else only its own cell has changed -/
def qr_bad (M M' : mv_M) (f : Nat) : Prop := M'.1 6 0 3 = (f : Int) ∧ (∀ t j k, ¬ t = 6 → M'.1 t j k = M.1 t j k) ∧ M'.1 6 0 2 = M.1 6 0 2 ∧ M'.2 = M.2
set_option maxRecDepth 100000 in
theorem sp_X6_failAt {f : Nat} {x : Int} {M : mv_M} {Q : mv_R} (hx : x = (f : Int)) (he : M.1 6 0 3 = -1) (h : ∀ M', qr_bad M M' f → Q none M') : E_X6_failAt [.inr (6, 0), .inl x] M Q := by
  subst hx
  refine ev_X6_failAt ?_
  refine go_X6_failAt [] 60 ?_
  refine sp_X6_hasFailed (fun c => absurd he c) (fun _ => mv_nf ?_)
  exact h _ ⟨mv_eqp, fun t j k hn => mv_nep (fun z => hn z.1), mv_nep (by decide), rfl⟩
