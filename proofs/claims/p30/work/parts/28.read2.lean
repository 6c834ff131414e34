/-! The class's reader: expect, numbers. -/
theorem qr_pos.bad {M M1 M2 : mv_M} {s f : Nat} (h : qr_pos M M1 s) (h2 : qr_bad M1 M2 f) : qr_bad M M2 f :=
  ⟨h2.1, fun t j k hn => (h2.2.1 t j k hn).trans (h.2.1 t j k (fun z => hn z.1)), h2.2.2.1.trans (h.2.1 _ _ _ (by decide)), h2.2.2.2.trans h.2.2⟩
theorem qr_pos.tx {M M1 : mv_M} {s : Nat} {tx : List Nat} (h : qr_pos M M1 s) (hT : qr_Tx M tx) : qr_Tx M1 tx := ⟨(h.2.1 _ _ _ (by decide)).trans hT.1, fun k x hk => (h.2.1 _ _ _ (by omega)).trans (hT.2 k x hk)⟩
theorem qr_pos.e3 {M M1 : mv_M} {s : Nat} (h : qr_pos M M1 s) : M1.1 6 0 3 = M.1 6 0 3 := h.2.1 _ _ _ (by decide)
theorem qp_sk_end (tx : List Nat) : ∀ n p, tx.length ≤ p + n → qp_at tx (qp_sk tx n p) ≠ 32
  | 0, p, h => by
    show qp_at tx p ≠ 32
    rw [qp_at_out (by omega)]
    decide
  | n + 1, p, h => by
    unfold qp_sk
    split
    · exact qp_sk_end tx n (p + 1) (by omega)
    · rename_i hn
      exact hn
theorem qp_skip_end (tx : List Nat) (p : Nat) : qp_at tx (qp_skip tx p) ≠ 32 := qp_sk_end tx _ p (by omega)
theorem qp_skip_skip (tx : List Nat) (p : Nat) : qp_skip tx (qp_skip tx p) = qp_skip tx p := by
  have h := qp_skip_end tx p
  generalize qp_skip tx p = s at h ⊢
  unfold qp_skip
  cases tx.length - s with
  | zero => rfl
  | succ n => unfold qp_sk; rw [if_neg h]
set_option maxRecDepth 100000 in
theorem sp_X6_expect {tx : List Nat} {p c : Nat} {x : Int} {M : mv_M} {Q : mv_R} (hx : x = (c : Int)) (hc : 1 ≤ c) (hT : qr_Tx M tx) (h140 : tx.length ≤ 140) (he : M.1 6 0 3 = -1) (hp : M.1 6 0 4 = (p : Int)) (hpl : p ≤ tx.length)
    (h1 : ∀ M', qp_at tx (qp_skip tx p) = c → qr_pos M M' (qp_skip tx p + 1) → Q none M') (h0 : ∀ M', ¬ qp_at tx (qp_skip tx p) = c → qr_bad M M' (qp_skip tx p) → Q none M') : E_X6_expect [.inr (6, 0), .inl x] M Q := by
  subst hx
  refine ev_X6_expect ?_
  refine go_X6_expect [] 60 ?_
  have hok := qp_skip_ok tx hpl
  refine sp_X6_hasFailed (fun z => absurd he z) (fun _ => mv_f ?_)
  refine sp_X6_nextSign hT h140 hp hpl (fun M1 hp1 => ?_)
  refine And.intro (fun c1 => ?_) (fun c1 => ?_)
  · refine sp_X6_failAt hp1.1 (hp1.e3.trans he) (fun M2 hb => ?_)
    exact h0 M2 (by omega) (hp1.bad hb)
  · have e4 := hp1.1
    refine And.intro (by omega) ?_
    refine h1 _ (by omega) ⟨?_, fun t j k hn => Eq.trans (mv_nep hn) (hp1.2.1 t j k hn), hp1.2.2⟩
    refine Eq.trans mv_eqp ?_
    omega
set_option maxRecDepth 100000 in
theorem sp_X6_expectF {x : Int} {M : mv_M} {Q : mv_R} (he : ¬ M.1 6 0 3 = -1) (h : Q none M) : E_X6_expect [.inr (6, 0), .inl x] M Q := by
  refine ev_X6_expect ?_
  refine go_X6_expect [] 60 ?_
  exact sp_X6_hasFailed (fun _ => mv_t h) (fun z => absurd z he)
set_option maxRecDepth 100000 in
theorem sp_X6_readNumberF {lo hi : Int} {M : mv_M} {Q : mv_R} (he : ¬ M.1 6 0 3 = -1) (h : Q (some (.inl lo)) M) : E_X6_readNumber [.inr (6, 0), .inl lo, .inl hi] M Q := by
  refine ev_X6_readNumber ?_
  refine go_X6_readNumber [] 60 ?_
  exact sp_X6_hasFailed (fun _ => mv_t h) (fun z => absurd z he)
theorem qp_dg_succ (tx : List Nat) (n p v : Nat) : qp_dg tx (n + 1) p v = if 48 ≤ qp_at tx p ∧ qp_at tx p ≤ 57 then qp_dg tx n (p + 1) (v * 10 + (qp_at tx p - 48)) else (p, v) := rfl
set_option maxRecDepth 100000 in
theorem sp_X6_readNumber {tx : List Nat} {p : Nat} {lo hi : Int} {M : mv_M} {Q : mv_R} (hT : qr_Tx M tx) (h140 : tx.length ≤ 140) (h255 : ∀ s ∈ tx, s ≤ 255) (he : M.1 6 0 3 = -1) (hp : M.1 6 0 4 = (p : Int)) (hpl : p ≤ tx.length) (hlo : lo ≤ 1) (hhi : hi ≤ 359)
    (h1 : ∀ v e M', qp_num tx lo hi p = some (v, e) → qr_pos M M' e → Q (some (.inl (v : Int))) M') (h0 : ∀ x M', qp_num tx lo hi p = none → qr_bad M M' (qp_skip tx p) → Q (some (.inl x)) M') : E_X6_readNumber [.inr (6, 0), .inl lo, .inl hi] M Q := by
  refine ev_X6_readNumber ?_
  refine go_X6_readNumber [22] 60 ?_
  refine sp_X6_hasFailed (fun z => absurd he z) (fun _ => mv_f ?_)
  refine sp_X6_nextSign hT h140 hp hpl (fun M1 hp1 => ?_)
  have hok := qp_skip_ok tx hpl
  have hnum : ∀ v e, (qp_dg tx (tx.length - qp_skip tx p) (qp_skip tx p) 0) = (e, v) → qp_num tx lo hi p = if (qp_skip tx p < e ∧ (qp_at tx (qp_skip tx p) ≠ 48 ∨ e = qp_skip tx p + 1)) ∧ lo ≤ (v : Int) ∧ (v : Int) ≤ hi then some (v, e) else none := by
    intro v e hd
    unfold qp_num
    rw [hd]
  obtain ⟨s, hs⟩ : ∃ s, s = qp_skip tx p := ⟨_, rfl⟩
  rw [← hs] at hp1 hok h0 hnum
  have hat : ∀ k, k < tx.length → qp_at tx k ≤ 255 := fun k hk => h255 _ (List.mem_of_getElem? (qp_at_in hk))
  -- the loop over the digits
  have hl : ∀ (k : Nat) (q : mv_M × Nat), k ≤ tx.length → (qr_pos M q.1 k ∧ s ≤ k ∧ qp_dg tx (tx.length - k) k q.2 = qp_dg tx (tx.length - s) s 0) → ∀ w x : Int, w = (min q.2 1000 : Nat) → x = (s : Int) →
      J_X6_readNumber Q 22 [some (.inr (6, 0)), some (.inl lo), some (.inl hi), some (.inl x), some (.inl w), none] [] q.1 := by
    refine mv_loop tx.length (fun k q hk ih hI w x hw hx => ?_)
    subst hx
    obtain ⟨M2, v⟩ := q
    obtain ⟨hp2, hsk, hR⟩ := hI
    dsimp only at hp2 hR hw ⊢
    have e4 := hp2.1
    have eT : M2.1 8 0 1 = (tx.length : Int) := (hp2.2.1 _ _ _ (by decide)).trans hT.1
    have e3 : M2.1 6 0 3 = -1 := hp2.e3.trans he
    have fin : qp_dg tx (tx.length - k) k v = (k, v) → J_X6_readNumber Q 96 [some (.inr (6, 0)), some (.inl lo), some (.inl hi), some (.inl (s : Int)), some (.inl w), none] [] M2 := by
      intro hd
      rw [hd] at hR
      have hn := hnum v k hR.symm
      have bad : ¬ ((s < k ∧ (qp_at tx s ≠ 48 ∨ k = s + 1)) ∧ lo ≤ (v : Int) ∧ (v : Int) ≤ hi) → ∀ o, J_X6_readNumber Q 139 [some (.inr (6, 0)), some (.inl lo), some (.inl hi), some (.inl (s : Int)), some (.inl w), o] [] M2 := by
        intro hc o
        rw [if_neg hc] at hn
        refine go_X6_readNumber [] 60 ?_
        refine sp_X6_failAt rfl e3 (fun M3 hb => ?_)
        exact h0 _ M3 hn (hp2.bad hb)
      have good : (s < k ∧ (qp_at tx s ≠ 48 ∨ k = s + 1)) → ∀ o, J_X6_readNumber Q 129 [some (.inr (6, 0)), some (.inl lo), some (.inl hi), some (.inl (s : Int)), some (.inl w), o] [] M2 := by
        intro hc o
        refine go_X6_readNumber [139] 60 ?_
        refine sp_isWithin (fun c => mv_nt ?_) (fun c => mv_nf (bad (fun z => c (by omega)) _))
        rw [if_pos ⟨hc, by omega⟩] at hn
        have hwv : w = (v : Int) := by omega
        rw [hwv]
        exact h1 v k M2 hn hp2
      refine go_X6_readNumber [139, 129] 60 ?_
      refine And.intro (by omega) ?_
      refine And.intro (fun c1 => bad (by omega) _) (fun c1 => ?_)
      refine And.intro (fun c2 => good ⟨by omega, Or.inr (by omega)⟩ _) (fun c2 => ?_)
      refine And.intro (by omega) ?_
      have es : M2.1 19 0 (s : Int).toNat = (qp_at tx s : Int) := (hp2.2.1 _ _ _ (by omega)).trans (hT.2 s _ (qp_at_in (by omega)))
      refine And.intro (fun c3 => bad (fun z => ?_) _) (fun c3 => good ⟨by omega, Or.inl (by omega)⟩ _)
      rcases z.1.2 with y | y
      · exact y (by omega)
      · omega
    refine go_X6_readNumber [22, 96] 60 ?_
    refine And.intro (fun c1 => fin ?_) (fun c1 => ?_)
    · have : tx.length - k = 0 := by omega
      rw [this]; rfl
    · have hlt : k < tx.length := by omega
      have en : (M2.1 6 0 4).toNat = k := by omega
      refine And.intro (by omega) ?_
      rw [en]
      have es : M2.1 19 0 k = (qp_at tx k : Int) := (hp2.2.1 _ _ _ (by omega)).trans (hT.2 k _ (qp_at_in hlt))
      have h25 := hat k hlt
      have hk1 : tx.length - k = (tx.length - (k + 1)) + 1 := by omega
      refine sp_X6_isDigit (fun c2 => mv_t ?_) (fun c2 => mv_f (fin ?_))
      · refine And.intro (by omega) ?_
        refine And.intro (by omega) ?_
        rw [en]
        refine And.intro (by omega) ?_
        refine And.intro (by omega) ?_
        refine And.intro (by omega) ?_
        have hR' : qp_dg tx (tx.length - (k + 1)) (k + 1) (v * 10 + (qp_at tx k - 48)) = qp_dg tx (tx.length - s) s 0 := by
          rw [← hR, hk1, qp_dg_succ, if_pos (by omega)]
        refine ih (_, v * 10 + (qp_at tx k - 48)) hlt ⟨⟨?_, fun t j i hni => Eq.trans (mv_nep hni) (hp2.2.1 t j i hni), hp2.2.2⟩, by omega, hR'⟩ _ _ (by omega) rfl
        refine Eq.trans mv_eqp ?_
        omega
      · rw [hk1]
        unfold qp_dg
        rw [if_neg (by omega)]
  exact hl s (M1, 0) hok.2 ⟨hp1, Nat.le_refl _, rfl⟩ _ _ rfl hp1.1
