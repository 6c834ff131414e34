/-! The reference: reading the text. -/
def rq_sg (tx : List Nat) (s : Nat) : Int := if s < tx.length then (qp_at tx s : Int) else -1
def rq_pos (M M' : mv_M) (s : Nat) : Prop := M'.1 11 0 17 = (s : Int) ∧ rr_of (fun t k => t = 11 ∧ k = 17) M M'
def rf_rd (t k : Nat) : Prop := (t = 24 ∧ k < 135) ∨ (t = 11 ∧ (k = 17 ∨ k = 18))
theorem rq_pos.of {M M' : mv_M} {s : Nat} (h : rq_pos M M' s) : rr_of rf_rd M M' := h.2.wk (fun t k z => Or.inr ⟨z.1, Or.inl z.2⟩)
theorem rr_Tx.rd {M M' : mv_M} {tx : List Nat} (h : rr_Tx M tx) (hO : rr_of rf_rd M M') : rr_Tx M' tx := h.fr (hO.1 _ _ _ (by unfold rf_rd; omega)) (fun k => hO.1 _ _ _ (by unfold rf_rd; omega))
theorem rq_pos.c {M M' : mv_M} {s : Nat} {C : qg_C} (h : rq_pos M M' s) (hC : rq_C (M.1 24 0) C) (hw : qg_wC C) : rq_C (M'.1 24 0) C := hC.of hw h.2 (fun k => by omega)
set_option maxRecDepth 100000 in
theorem sp_X11_here {tx : List Nat} {p : Nat} {M : mv_M} {Q : mv_R} (hT : rr_Tx M tx) (h140 : tx.length ≤ 140) (hp : M.1 11 0 17 = (p : Int)) (hpl : p ≤ tx.length) (h : ∀ M', rq_pos M M' (qp_skip tx p) → Q (some (.inl (rq_sg tx (qp_skip tx p)))) M') : E_X11_here [.inr (11, 0)] M Q := by
  refine ev_X11_here ?_
  obtain ⟨s, hs⟩ : ∃ s, s = qp_skip tx p := ⟨_, rfl⟩
  rw [← hs] at h
  have hl : ∀ (k : Nat) (M1 : mv_M), k ≤ tx.length → (rq_pos M M1 k ∧ qp_sk tx (tx.length - k) k = s) → J_X11_here Q 0 [some (.inr (11, 0))] [] M1 := by
    refine mv_loop tx.length (fun k M1 hk ih hI => ?_)
    obtain ⟨⟨e4, hO⟩, hR⟩ := hI
    have hn : ∀ t j k, ¬ (t = 11 ∧ k = 17) → M1.1 t j k = M.1 t j k := fun t j k z => hO.1 t j k z
    have eT : M1.1 11 0 6 = (tx.length : Int) := (hn _ _ _ (by omega)).trans hT.1
    have fin : k = s → J_X11_here Q 38 [some (.inr (11, 0))] [] M1 := by
      intro e
      subst e
      refine go_X11_here [] 60 ?_
      have h0 := h M1 ⟨e4, hO⟩
      unfold rq_sg at h0
      refine And.intro (fun c1 => ?_) (fun c1 => ?_)
      · rw [if_neg (by omega)] at h0
        exact h0
      · rw [if_pos (by omega)] at h0
        refine And.intro (by omega) ?_
        have en : (M1.1 11 0 17).toNat = k := by omega
        rw [en]
        have es : M1.1 27 0 k = (qp_at tx k : Int) := (hn _ _ _ (by omega)).trans (hT.2 k _ (qp_at_in (by omega)))
        rw [← es] at h0
        exact h0
    refine go_X11_here [0, 38] 60 ?_
    refine And.intro (fun c1 => fin ?_) (fun c1 => ?_)
    · have : k = tx.length := by omega
      rw [this, Nat.sub_self] at hR
      rw [this]; exact hR
    · have hlt : k < tx.length := by omega
      have hR2 := hR
      rw [show tx.length - k = (tx.length - (k + 1)) + 1 by omega] at hR2
      unfold qp_sk at hR2
      refine And.intro (by omega) ?_
      have en : (M1.1 11 0 17).toNat = k := by omega
      rw [en]
      have es : M1.1 27 0 k = (qp_at tx k : Int) := (hn _ _ _ (by omega)).trans (hT.2 k _ (qp_at_in hlt))
      refine And.intro (fun c2 => fin ?_) (fun c2 => ?_)
      · rw [if_neg (by omega)] at hR2
        exact hR2
      · rw [if_pos (by omega)] at hR2
        refine And.intro (by omega) ?_
        refine ih _ hlt ⟨⟨?_, hO.up ⟨rfl, rfl⟩⟩, hR2⟩
        refine Eq.trans mv_eqp ?_
        omega
  exact hl p M hpl ⟨⟨hp, rr_of.rf⟩, hs.symm⟩
theorem rq_sg_eq {tx : List Nat} {s c : Nat} (hc : 1 ≤ c) : rq_sg tx s = (c : Int) ↔ qp_at tx s = c := by
  unfold rq_sg
  by_cases h : s < tx.length
  · rw [if_pos h]; omega
  · rw [if_neg h, qp_at_out (by omega)]; omega
set_option maxRecDepth 100000 in
theorem sp_X11_takes {tx : List Nat} {p c : Nat} {x : Int} {M : mv_M} {Q : mv_R} (hx : x = (c : Int)) (hc : 1 ≤ c) (hT : rr_Tx M tx) (h140 : tx.length ≤ 140) (hp : M.1 11 0 17 = (p : Int)) (hpl : p ≤ tx.length)
    (h1 : ∀ M', qp_at tx (qp_skip tx p) = c → rq_pos M M' (qp_skip tx p + 1) → Q (some (.inl 1)) M') (h0 : ∀ M', ¬ qp_at tx (qp_skip tx p) = c → rq_pos M M' (qp_skip tx p) → Q (some (.inl 0)) M') : E_X11_takes [.inr (11, 0), .inl x] M Q := by
  subst hx
  refine ev_X11_takes ?_
  refine go_X11_takes [] 60 ?_
  have hs := qp_skip_ok tx hpl
  refine sp_X11_here hT h140 hp hpl (fun M1 hp1 => ?_)
  have e17 := hp1.1
  refine And.intro (fun c1 => ?_) (fun c1 => ?_)
  · have hn : ¬ qp_at tx (qp_skip tx p) = c := fun z => c1 ((rq_sg_eq hc).mpr z)
    refine mv_f ?_
    refine And.intro (by omega) ?_
    refine And.intro (Or.inl rfl) (h0 _ hn ⟨mv_eqp.trans (by omega), hp1.2.up ⟨rfl, rfl⟩⟩)
  · have hn : qp_at tx (qp_skip tx p) = c := (rq_sg_eq hc).mp c1
    refine mv_t ?_
    refine And.intro (by omega) ?_
    refine And.intro (Or.inr rfl) (h1 _ hn ⟨mv_eqp.trans (by omega), hp1.2.up ⟨rfl, rfl⟩⟩)
def rf_num (t k : Nat) : Prop := t = 11 ∧ (k = 17 ∨ k = 18)
theorem rf_num_rd {t k : Nat} (h : rf_num t k) : rf_rd t k := Or.inr h
set_option maxRecDepth 100000 in
theorem sp_X11_reads {tx : List Nat} {p : Nat} {lo hi : Int} {M : mv_M} {Q : mv_R} (hT : rr_Tx M tx) (h140 : tx.length ≤ 140) (h255 : ∀ s ∈ tx, s ≤ 255) (hp : M.1 11 0 17 = (p : Int)) (hpl : p ≤ tx.length) (hlo : 0 ≤ lo ∧ lo ≤ 400) (hhi : hi ≤ 400)
    (h1 : ∀ v e M', qp_num tx lo hi p = some (v, e) → M'.1 11 0 17 = (e : Int) → M'.1 11 0 18 = (v : Int) → rr_of rf_num M M' → Q (some (.inl 1)) M') (h0 : ∀ M', qp_num tx lo hi p = none → M'.1 11 0 17 = (qp_skip tx p : Int) → rr_of rf_num M M' → Q (some (.inl 0)) M') : E_X11_reads [.inr (11, 0), .inl lo, .inl hi] M Q := by
  refine ev_X11_reads ?_
  refine go_X11_reads [14] 60 ?_
  have hs := qp_skip_ok tx hpl
  refine sp_X11_here hT h140 hp hpl (fun M1 hp1 => ?_)
  have e17 := hp1.1
  have hO1 : rr_of rf_num M M1 := hp1.2.wk (fun t k z => ⟨z.1, Or.inl z.2⟩)
  obtain ⟨s, hse⟩ : ∃ s, s = qp_skip tx p := ⟨_, rfl⟩
  rw [← hse] at hs e17 h0
  have hl : ∀ (k : Nat) (q : mv_M × Nat), k ≤ tx.length → (s ≤ k ∧ rr_of rf_num M q.1 ∧ q.1.1 11 0 17 = (k : Int) ∧ qp_dg tx (tx.length - k) k q.2 = qp_dg tx (tx.length - s) s 0) → ∀ w : Int, ((w = (q.2 : Int) ∧ 0 ≤ w ∧ w < 1000000) ∨ (100000 ≤ w ∧ w < 1000000 ∧ 100000 ≤ q.2)) →
      J_X11_reads Q 14 [some (.inr (11, 0)), some (.inl lo), some (.inl hi), some (.inl (rq_sg tx s)), some (.inl (s : Int)), some (.inl w), none] [] q.1 := by
    refine mv_loop tx.length (fun k q hk ih hI w hw => ?_)
    obtain ⟨M2, v⟩ := q
    obtain ⟨hsk, hO2, g17, hR⟩ := hI
    dsimp only at hO2 g17 hR hw ⊢
    have g6 : M2.1 11 0 6 = (tx.length : Int) := (hO2.1 _ _ _ (by unfold rf_num; omega)).trans hT.1
    -- the number is over
    have fin : qp_dg tx (tx.length - s) s 0 = (k, v) → J_X11_reads Q 89 [some (.inr (11, 0)), some (.inl lo), some (.inl hi), some (.inl (rq_sg tx s)), some (.inl (s : Int)), some (.inl w), none] [] M2 := by
      intro hE
      have hnum : qp_num tx lo hi p = if (s < k ∧ (qp_at tx s ≠ 48 ∨ k = s + 1)) ∧ lo ≤ (v : Int) ∧ (v : Int) ≤ hi then some (v, k) else none := by
        unfold qp_num
        rw [← hse, hE]
      have bad : ¬ ((s < k ∧ (qp_at tx s ≠ 48 ∨ k = s + 1)) ∧ lo ≤ (v : Int) ∧ (v : Int) ≤ hi) → J_X11_reads Q 129 [some (.inr (11, 0)), some (.inl lo), some (.inl hi), some (.inl (rq_sg tx s)), some (.inl (s : Int)), some (.inl w), none] [] M2 := by
        intro hc
        rw [if_neg hc] at hnum
        refine go_X11_reads [] 60 ?_
        refine mv_f ?_
        refine And.intro (Or.inl rfl) (h0 _ hnum ((mv_nep (by omega)).trans mv_eqp) ((hO2.up ⟨rfl, Or.inl rfl⟩).up ⟨rfl, Or.inr rfl⟩))
      have mid : s < k → (qp_at tx s ≠ 48 ∨ k = s + 1) → J_X11_reads Q 115 [some (.inr (11, 0)), some (.inl lo), some (.inl hi), some (.inl (rq_sg tx s)), some (.inl (s : Int)), some (.inl w), none] [] M2 := by
        intro c1 c2
        refine go_X11_reads [129] 60 ?_
        refine sp_X11_in (fun c => mv_t ?_) (fun c => mv_f (bad (fun z => c (by omega))))
        have hwv : w = (v : Int) := by omega
        rw [if_pos ⟨⟨c1, c2⟩, by omega, by omega⟩] at hnum
        refine mv_t ?_
        refine And.intro (Or.inr rfl) (h1 v k _ hnum ((mv_nep (by omega)).trans (mv_eqp.trans g17)) (mv_eqp.trans hwv) ((hO2.up ⟨rfl, Or.inl rfl⟩).up ⟨rfl, Or.inr rfl⟩))
      refine go_X11_reads [115, 129] 60 ?_
      refine And.intro (fun c1 => bad (by omega)) (fun c1 => ?_)
      have hslt : s < tx.length := by omega
      have esg : rq_sg tx s = (qp_at tx s : Int) := by unfold rq_sg; rw [if_pos hslt]
      refine And.intro (fun c2 => mid (by omega) (Or.inl (by omega))) (fun c2 => ?_)
      refine And.intro (by omega) ?_
      refine And.intro (fun c3 => bad (by omega)) (fun c3 => mid (by omega) (Or.inr (by omega)))
    refine go_X11_reads [14, 89] 60 ?_
    refine And.intro (fun c1 => fin ?_) (fun c1 => ?_)
    · have : k = tx.length := by omega
      rw [this, Nat.sub_self] at hR
      rw [this]; exact hR.symm
    · have hlt : k < tx.length := by omega
      rw [show tx.length - k = (tx.length - (k + 1)) + 1 by omega, qp_dg_succ] at hR
      refine And.intro (by omega) ?_
      have en : (M2.1 11 0 17).toNat = k := by omega
      have es : M2.1 27 0 (M2.1 11 0 17).toNat = (qp_at tx k : Int) := by
        rw [en]
        exact (hO2.1 _ _ _ (by unfold rf_num; omega)).trans (hT.2 k _ (qp_at_in hlt))
      have h255k : qp_at tx k ≤ 255 := h255 _ (List.mem_of_getElem? (qp_at_in hlt))
      rw [es]
      refine sp_X11_in (fun c2 => mv_t ?_) (fun c2 => mv_f (fin ?_))
      · rw [if_pos (by omega)] at hR
        refine And.intro (fun c3 => ?_) (fun c3 => ?_)
        · refine And.intro (by omega) ?_
          refine ih (_, v * 10 + (qp_at tx k - 48)) hlt ⟨by omega, hO2.up ⟨rfl, Or.inl rfl⟩, mv_eqp.trans (by omega), hR⟩ w (Or.inr (by show 100000 ≤ w ∧ w < 1000000 ∧ 100000 ≤ v * 10 + (qp_at tx k - 48); omega))
        · refine And.intro (by omega) (And.intro (by omega) ?_)
          rw [es]
          refine And.intro (by omega) (And.intro (by omega) (And.intro (by omega) ?_))
          refine ih (_, v * 10 + (qp_at tx k - 48)) hlt ⟨by omega, hO2.up ⟨rfl, Or.inl rfl⟩, mv_eqp.trans (by omega), hR⟩ _ (Or.inl ?_)
          show 10 * w + (qp_at tx k : Int) - 48 = ((v * 10 + (qp_at tx k - 48) : Nat) : Int) ∧ 0 ≤ 10 * w + (qp_at tx k : Int) - 48 ∧ 10 * w + (qp_at tx k : Int) - 48 < 1000000
          omega
      · rw [if_neg (by omega)] at hR
        exact hR.symm
  have hh := hl s (M1, 0) hs.2 ⟨Nat.le_refl _, hO1, e17, rfl⟩ 0 (Or.inl ⟨rfl, by omega, by omega⟩)
  rw [← e17, hse] at hh
  exact hh
