/-! Counting modules. -/
def pz_c (f : Nat → Bool) : Nat → Nat
  | 0 => 0
  | n + 1 => pz_c f n + (if f n = true then 1 else 0)
theorem pz_c_succ (f : Nat → Bool) (n : Nat) : pz_c f (n + 1) = pz_c f n + (if f n = true then 1 else 0) := rfl
theorem pz_c_congr {f g : Nat → Bool} : ∀ n, (∀ i, i < n → f i = g i) → pz_c f n = pz_c g n
  | 0, _ => rfl
  | n + 1, h => by rw [pz_c_succ, pz_c_succ, pz_c_congr n (fun i hi => h i (by omega)), h n (by omega)]
theorem pz_c_add (f : Nat → Bool) (a : Nat) : ∀ n, pz_c f (a + n) = pz_c f a + pz_c (fun i => f (a + i)) n
  | 0 => rfl
  | n + 1 => by
    rw [← Nat.add_assoc, pz_c_succ, pz_c_succ, pz_c_add f a n]
    omega
theorem pz_c_or {f g h : Nat → Bool} : ∀ n, (∀ i, i < n → f i = (g i || h i)) → (∀ i, i < n → g i = true → h i = true → False) → pz_c f n = pz_c g n + pz_c h n
  | 0, _, _ => rfl
  | n + 1, h1, h2 => by
    rw [pz_c_succ, pz_c_succ, pz_c_succ, pz_c_or n (fun i hi => h1 i (by omega)) (fun i hi => h2 i (by omega)), h1 n (by omega)]
    have := h2 n (by omega)
    cases hg : g n <;> cases hh : h n <;> simp
    · omega
    · omega
    · exact (this hg hh).elim
theorem pz_c_zero {f : Nat → Bool} : ∀ n, (∀ i, i < n → f i = false) → pz_c f n = 0
  | 0, _ => rfl
  | n + 1, h => by rw [pz_c_succ, pz_c_zero n (fun i hi => h i (by omega)), h n (by omega)]; rfl
theorem pz_c_int (r h : Nat) : ∀ n, pz_c (fun j => decide (r ≤ j ∧ j < r + h)) n = min n (r + h) - min n r
  | 0 => by show 0 = _; omega
  | n + 1 => by
    rw [pz_c_succ, pz_c_int r h n]
    by_cases hc : r ≤ n ∧ n < r + h
    · rw [if_pos (decide_eq_true hc)]; omega
    · rw [if_neg (fun z => hc (of_decide_eq_true z))]; omega
theorem pz_c_mul {f g k : Nat → Bool} {b : Nat} : ∀ n, (∀ i j, i < n → j < b → f (b * i + j) = (g i && k j)) → pz_c f (b * n) = pz_c g n * pz_c k b
  | 0, _ => by show pz_c f (b * 0) = 0 * _; rw [Nat.mul_zero, Nat.zero_mul]; rfl
  | n + 1, h => by
    rw [Nat.mul_succ, pz_c_add, pz_c_mul n (fun i j hi hj => h i j (by omega) hj), pz_c_succ, Nat.add_mul]
    congr 1
    cases hg : g n with
    | false =>
      rw [pz_c_zero b (fun j hj => by rw [h n j (by omega) hj, hg]; rfl)]
      simp
    | true =>
      rw [pz_c_congr b (fun j hj => by rw [h n j (by omega) hj, hg, Bool.true_and])]
      simp
theorem pz_cnt_c (T : Nat → Nat) (a v : Nat) : ∀ n, qg_cnt T a v n = pz_c (fun i => decide (v ≤ T (a + i))) n
  | 0 => rfl
  | n + 1 => by
    show qg_cnt T a v n + _ = pz_c _ n + _
    rw [pz_cnt_c T a v n]
    by_cases hc : v ≤ T (a + n) <;> simp [hc]
theorem pz_cnt_add (T : Nat → Nat) (a v k : Nat) : ∀ n, qg_cnt T a v (k + n) = qg_cnt T a v k + qg_cnt T (a + k) v n
  | 0 => rfl
  | n + 1 => by
    show qg_cnt T a v (k + n) + (if v ≤ T (a + (k + n)) then 1 else 0) = qg_cnt T a v k + (qg_cnt T (a + k) v n + (if v ≤ T (a + k + n) then 1 else 0))
    rw [pz_cnt_add T a v k n, ← Nat.add_assoc a k n]
    omega
theorem pz_cnt_pages (T : Nat → Nat) (v : Nat) : qg_cnt T 0 v 360 = qg_cnt T (120 * 0) v 120 + qg_cnt T (120 * 1) v 120 + qg_cnt T (120 * 2) v 120 := by
  have h1 := pz_cnt_add T 0 v 240 120
  have h2 := pz_cnt_add T 0 v 120 120
  have e1 : qg_cnt T 0 v 360 = qg_cnt T 0 v (240 + 120) := rfl
  have e2 : qg_cnt T 0 v 240 = qg_cnt T 0 v (120 + 120) := rfl
  rw [e1, h1, e2, h2]
theorem pz_cnt_le (T U : Nat → Nat) (a v w : Nat) : ∀ n, (∀ i, i < n → (v ≤ T (a + i) ↔ w ≤ U (a + i))) → qg_cnt T a v n = qg_cnt U a w n
  | 0, _ => rfl
  | n + 1, h => by
    show qg_cnt T a v n + _ = qg_cnt U a w n + _
    rw [pz_cnt_le T U a v w n (fun i hi => h i (by omega))]
    have := h n (by omega)
    by_cases hc : v ≤ T (a + n)
    · rw [if_pos hc, if_pos (this.mp hc)]
    · rw [if_neg hc, if_neg (fun z => hc (this.mpr z))]
/-- one more module is taken -/
theorem pz_cnt_up {T : Nat → Nat} {k v : Nat} (h0 : T k = 0) (hv : 1 ≤ v) : ∀ n, qg_cnt (qg_up T k v) 0 1 n = qg_cnt T 0 1 n + (if k < n then 1 else 0)
  | 0 => rfl
  | n + 1 => by
    show qg_cnt (qg_up T k v) 0 1 n + _ = qg_cnt T 0 1 n + _ + _
    rw [pz_cnt_up h0 hv n, Nat.zero_add]
    by_cases e : n = k
    · subst e
      have e1 : qg_up T n v n = v := if_pos rfl
      rw [e1, h0, if_pos hv, if_neg (by omega), if_neg (by omega), if_pos (by omega)]
    · have e1 : qg_up T k v n = T n := if_neg e
      rw [e1]
      by_cases hk : k < n
      · rw [if_pos hk, if_pos (show k < n + 1 by omega)]
        omega
      · rw [if_neg hk, if_neg (show ¬ k < n + 1 by omega)]
        omega
-- the modules of a quote
def pz_aq (P : Nat) (q : qg_Q) : Nat := match q.2.2.2.2 with
  | none => 0
  | some p => if p.1 = P then q.2.2.1 * q.2.2.2.1 else 0
def pz_aS (P : Nat) (qs : List qg_Q) : Nat := (qs.map (pz_aq P)).sum
theorem pz_aS_cons (P : Nat) (q : qg_Q) (qs : List qg_Q) : pz_aS P (q :: qs) = pz_aq P q + pz_aS P qs := by simp [pz_aS]
theorem pz_cov_cnt {q : qg_Q} (hin : qg_inQ q) (P : Nat) : pz_c (fun i => qg_cov q (120 * P + i)) 120 = pz_aq P q := by
  unfold pz_aq
  cases hp : q.2.2.2.2 with
  | none => exact pz_c_zero 120 (fun i _ => pz_cov_none hp _)
  | some p =>
    dsimp only
    have h2 := hin p hp
    by_cases hP : p.1 = P
    · rw [if_pos hP]
      have h := pz_c_mul (f := fun i => qg_cov q (120 * P + i)) (g := fun i => decide (p.2.1 ≤ i ∧ i < p.2.1 + q.2.2.1)) (k := fun j => decide (p.2.2 ≤ j ∧ j < p.2.2 + q.2.2.2.1)) (b := 20) 6 (fun i j hi hj => by
        unfold qg_cov
        rw [hp]
        dsimp only
        rw [← Bool.decide_and]
        refine decide_eq_decide.mpr ?_
        rw [show (120 * P + (20 * i + j)) / 120 = P by omega, show (120 * P + (20 * i + j)) % 120 / 20 = i by omega, show (120 * P + (20 * i + j)) % 20 = j by omega]
        exact ⟨fun z => ⟨⟨z.2.1, z.2.2.1⟩, z.2.2.2⟩, fun z => ⟨hP.symm, z.1.1, z.1.2, z.2⟩⟩)
      rw [pz_c_int, pz_c_int] at h
      rw [show min 6 (p.2.1 + q.2.2.1) - min 6 p.2.1 = q.2.2.1 by omega, show min 20 (p.2.2 + q.2.2.2.1) - min 20 p.2.2 = q.2.2.2.1 by omega] at h
      exact h
    · rw [if_neg hP]
      refine pz_c_zero 120 (fun i hi => ?_)
      cases hc : qg_cov q (120 * P + i) with
      | false => rfl
      | true =>
        obtain ⟨p', hp', a1, -⟩ := pz_cov_at hc
        rw [hp] at hp'
        cases hp'
        omega
def pz_any (qs : List qg_Q) (m : Nat) : Bool := qs.any (fun q => qg_cov q m)
theorem pz_any_cnt (P : Nat) : ∀ qs : List qg_Q, (∀ q ∈ qs, qg_inQ q) → pz_dj qs → pz_c (fun i => pz_any qs (120 * P + i)) 120 = pz_aS P qs
  | [], _, _ => pz_c_zero 120 (fun _ _ => rfl)
  | q :: qs, hin, hd => by
    have hd2 := List.pairwise_cons.mp hd
    rw [pz_aS_cons, ← pz_any_cnt P qs (fun r hr => hin r (List.mem_cons_of_mem _ hr)) hd2.2, ← pz_cov_cnt (hin q List.mem_cons_self) P]
    refine pz_c_or 120 (fun i _ => ?_) (fun i _ h1 h2 => ?_)
    · unfold pz_any; rw [List.any_cons]
    · obtain ⟨r, hr, hc⟩ := List.any_eq_true.mp h2
      exact hd2.1 r hr _ h1 hc
theorem pz_qT_none : ∀ (qs : List qg_Q) (i : Nat) (T : Nat → Nat) (m : Nat), (∀ q ∈ qs, qg_cov q m = false) → qg_qT qs i T m = T m
  | [], _, _, _, _ => rfl
  | q :: qs, i, T, m, h => by
    rw [qg_qT_cons, pz_qT_none qs _ _ m (fun r hr => h r (List.mem_cons_of_mem _ hr)), h q List.mem_cons_self]
    rfl
theorem pz_qT_some : ∀ (qs : List qg_Q) (i : Nat) (T : Nat → Nat) (m k : Nat) (q : qg_Q), pz_dj qs → qs[k]? = some q → qg_cov q m = true → qg_qT qs i T m = 21 + i + k
  | [], _, _, _, k, q, _, h, _ => by simp at h
  | r :: qs, i, T, m, 0, q, hd, h, hc => by
    have hd2 := List.pairwise_cons.mp hd
    simp at h
    subst h
    rw [qg_qT_cons, pz_qT_none qs _ _ m (fun x hx => by
      cases hz : qg_cov x m with
      | false => rfl
      | true => exact (hd2.1 x hx m hc hz).elim)]
    rw [if_pos hc]; rfl
  | r :: qs, i, T, m, k + 1, q, hd, h, hc => by
    have hd2 := List.pairwise_cons.mp hd
    rw [List.getElem?_cons_succ] at h
    rw [qg_qT_cons, pz_qT_some qs (i + 1) _ m k q hd2.2 h hc]
    omega
abbrev pz_T0 (C : qg_C) : Nat → Nat := qg_qT C.2.1 0 (fun _ => 0)
theorem pz_T0_v (C : qg_C) (hd : pz_dj C.2.1) (m : Nat) : (pz_any C.2.1 m = true ∧ 21 ≤ pz_T0 C m) ∨ (pz_any C.2.1 m = false ∧ pz_T0 C m = 0) := by
  cases h : pz_any C.2.1 m with
  | true =>
    obtain ⟨q, hq, hc⟩ := List.any_eq_true.mp h
    obtain ⟨k, hk⟩ := List.getElem?_of_mem hq
    have := pz_qT_some C.2.1 0 (fun _ => 0) m k q hd hk hc
    exact Or.inl ⟨rfl, by show 21 ≤ qg_qT C.2.1 0 (fun _ => 0) m; omega⟩
  | false =>
    refine Or.inr ⟨rfl, pz_qT_none C.2.1 0 (fun _ => 0) m (fun q hq => ?_)⟩
    have := List.any_eq_false.mp h q hq
    cases hc : qg_cov q m with
    | false => rfl
    | true => exact absurd hc this
theorem pz_T0_cnt (C : qg_C) (hin : qg_inC C) (hd : pz_dj C.2.1) (P v : Nat) (hv : 1 ≤ v) (hv2 : v ≤ 21) : qg_cnt (pz_T0 C) (120 * P) v 120 = pz_aS P C.2.1 := by
  rw [pz_cnt_c, ← pz_any_cnt P C.2.1 hin hd]
  refine pz_c_congr 120 (fun i _ => ?_)
  rcases pz_T0_v C hd (120 * P + i) with ⟨h1, h2⟩ | ⟨h1, h2⟩
  · rw [h1]; exact decide_eq_true (by omega)
  · rw [h1, h2]; exact decide_eq_false (by omega)
