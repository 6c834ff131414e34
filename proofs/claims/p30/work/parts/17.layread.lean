/-! What is read off a layout. -/
theorem qg_pour_ok (i len : Nat) : ∀ (n k : Nat) (T : Nat → Nat) (ls : List Nat) (lp j : Nat), k + n ≤ 360 → (∀ m ∈ ls, m < 360) → ls.length ≤ len → j ≤ k →
    (∀ m ∈ (qg_pour i len n k T ls lp j).2.1, m < 360) ∧ (qg_pour i len n k T ls lp j).2.1.length ≤ len ∧ (qg_pour i len n k T ls lp j).2.2 ≤ k + n
  | 0, k, T, ls, lp, j, _, h1, h2, h3 => ⟨h1, h2, h3⟩
  | n + 1, k, T, ls, lp, j, hk, h1, h2, h3 => by
    unfold qg_pour
    split
    · rename_i hl
      split
      · split
        · have := qg_pour_ok i len n (k + 1) (qg_up T k (11 + i)) ls (k / 120) (j + 1) (by omega) h1 h2 (by omega)
          exact ⟨this.1, this.2.1, by omega⟩
        · have := qg_pour_ok i len n (k + 1) (qg_up T k (1 + i)) (ls ++ [k]) (k / 120) j (by omega) (fun m hm => by
            rcases List.mem_append.mp hm with q | q
            · exact h1 m q
            · rw [List.mem_singleton.mp q]; omega) (by simp; omega) (by omega)
          exact ⟨this.1, this.2.1, by omega⟩
      · have := qg_pour_ok i len n (k + 1) T ls lp j (by omega) h1 h2 (by omega)
        exact ⟨this.1, this.2.1, by omega⟩
    · exact ⟨h1, h2, by show j ≤ k + (n + 1); omega⟩
theorem qg_pour_T (i len : Nat) (hi : i < 6) : ∀ (n k : Nat) (T : Nat → Nat) (ls : List Nat) (lp j : Nat), (∀ m, T m ≤ 28) → ∀ m, (qg_pour i len n k T ls lp j).1 m ≤ 28
  | 0, k, T, ls, lp, j, h => h
  | n + 1, k, T, ls, lp, j, h => by
    unfold qg_pour
    have hu : ∀ v, v ≤ 28 → ∀ m, qg_up T k v m ≤ 28 := fun v hv m => by
      unfold qg_up
      split
      · exact hv
      · exact h m
    split
    · split
      · split
        · exact qg_pour_T i len hi n _ _ _ _ _ (hu _ (by omega))
        · exact qg_pour_T i len hi n _ _ _ _ _ (hu _ (by omega))
      · exact qg_pour_T i len hi n _ _ _ _ _ h
    · exact h
def qg_len (C : qg_C) (i : Nat) : Nat := (C.1.getD i (0, 0, [])).2.1
def qg_ls (C : qg_C) (i : Nat) : List Nat := ((qg_lay C).2.getD i ([], 0)).1
def qg_ju (C : qg_C) (i : Nat) : Nat := ((qg_lay C).2.getD i ([], 0)).2
def qg_ov (C : qg_C) (i : Nat) : Nat := qg_len C i - (qg_ls C i).length
theorem qg_len_at {C : qg_C} {i : Nat} {a : qg_A} (h : C.1[i]? = some a) : qg_len C i = a.2.1 := by
  unfold qg_len
  rw [List.getD_eq_getElem?_getD, h]; rfl
theorem qg_layA_ok : ∀ (as : List qg_A) (i : Nat) (T : Nat → Nat), (∀ a ∈ as, qg_wA a) → ∀ (k : Nat) (a : qg_A) (r : List Nat × Nat), as[k]? = some a → (qg_layA as i T).2[k]? = some r → (∀ m ∈ r.1, m < 360) ∧ r.1.length ≤ a.2.1 ∧ r.2 ≤ 360
  | [], _, _, _, k, a, r, h, _ => by simp at h
  | b :: as, i, T, hw, k, a, r, h1, h2 => by
    cases k with
    | zero =>
      have hb := hw b List.mem_cons_self
      have w1 := hb.1
      simp at h1
      subst h1
      have h2 : some (qg_pour i b.2.1 (360 - b.1) b.1 T [] 0 0).2 = some r := h2
      have h2 := Option.some.inj h2
      subst h2
      have := qg_pour_ok i b.2.1 (360 - b.1) b.1 T [] 0 0 (by omega) (fun m hm => by cases hm) (Nat.zero_le _) (Nat.zero_le _)
      exact ⟨this.1, this.2.1, by omega⟩
    | succ k => exact qg_layA_ok as (i + 1) _ (fun a ha => hw a (List.mem_cons_of_mem _ ha)) k a r h1 h2
theorem qg_qT_28 : ∀ (qs : List qg_Q) (i : Nat) (T : Nat → Nat), i + qs.length ≤ 8 → (∀ m, T m ≤ 28) → ∀ m, qg_qT qs i T m ≤ 28
  | [], _, _, _, h => h
  | q :: qs, i, T, hl, h => by
    rw [qg_qT_cons]
    rw [List.length_cons] at hl
    refine qg_qT_28 qs (i + 1) _ (by omega) (fun m => ?_)
    by_cases hc : qg_cov q m = true
    · show (if qg_cov q m = true then 21 + i else T m) ≤ 28
      rw [if_pos hc]; omega
    · show (if qg_cov q m = true then 21 + i else T m) ≤ 28
      rw [if_neg hc]; exact h m
theorem qg_layA_28 : ∀ (as : List qg_A) (i : Nat) (T : Nat → Nat), i + as.length ≤ 6 → (∀ m, T m ≤ 28) → ∀ m, (qg_layA as i T).1 m ≤ 28
  | [], _, _, _, h => h
  | a :: as, i, T, hl, h => by
    rw [List.length_cons] at hl
    exact qg_layA_28 as (i + 1) _ (by omega) (qg_pour_T i a.2.1 (by omega) _ _ _ _ _ _ h)
theorem qg_lay_28 {C : qg_C} (hw : qg_wC C) (m : Nat) : (qg_lay C).1 m ≤ 28 :=
  qg_layA_28 _ _ _ (by have := hw.1; omega) (qg_qT_28 _ _ _ (by have := hw.2.1; omega) (fun _ => Nat.zero_le _)) m
theorem qg_lay_at {C : qg_C} {i : Nat} (h : i < C.1.length) : ∃ a, C.1[i]? = some a ∧ (qg_lay C).2[i]? = some (qg_ls C i, qg_ju C i) := by
  obtain ⟨a, ha⟩ := qg_some h
  obtain ⟨r, hr⟩ := qg_some (show i < (qg_lay C).2.length by rw [qg_lay_len]; exact h)
  refine ⟨a, ha, ?_⟩
  unfold qg_ls qg_ju
  rw [List.getD_eq_getElem?_getD, hr]; rfl
theorem qg_lay_ok {C : qg_C} (hw : qg_wC C) {i : Nat} (h : i < C.1.length) : (∀ m ∈ qg_ls C i, m < 360) ∧ (qg_ls C i).length ≤ qg_len C i ∧ qg_ju C i ≤ 360 ∧ qg_len C i ≤ 200 := by
  obtain ⟨a, ha, hr⟩ := qg_lay_at h
  have h1 := qg_layA_ok C.1 0 _ hw.2.2.1 i a _ ha hr
  rw [qg_len_at ha]
  exact ⟨h1.1, h1.2.1, h1.2.2, (hw.2.2.1 a (List.mem_of_getElem? ha)).2.2.1⟩
theorem qr_L.at {M : mv_M} {lam : Nat} {C : qg_C} (h : qr_L M lam C) {i : Nat} (hi : i < C.1.length) : qr_F M (6 * lam + i) (qg_len C i) (qg_ls C i, qg_ju C i) := by
  obtain ⟨a, ha, hr⟩ := qg_lay_at hi
  rw [qg_len_at ha]
  exact h.2.2 i a _ ha hr
/-- a number or NONE -/
def qg_oi (o : Option Nat) : Int := match o with
  | some n => (n : Int)
  | none => -99
def qg_ati (ls : List Nat) (v : Int) : Option Nat := if 0 ≤ v then ls[v.toNat]? else none
set_option maxRecDepth 100000 in
theorem sp_X2_moduleOf {f len : Nat} {r : List Nat × Nat} {v : Int} {M : mv_M} {Q : mv_R} (hF : qr_F M f len r) (hl : r.1.length ≤ 200) (h : Q (some (.inl (qg_oi (qg_ati r.1 v)))) M) : E_X2_moduleOf [.inr (2, f), .inl v] M Q := by
  refine ev_X2_moduleOf ?_
  refine go_X2_moduleOf [] 60 ?_
  have e2 := hF.1
  refine And.intro (by omega) ?_
  unfold qg_ati at h
  refine sp_isWithin (fun c1 => mv_t ?_) (fun c1 => mv_f ?_)
  · obtain ⟨n, rfl⟩ := Int.eq_ofNat_of_zero_le c1.1
    obtain ⟨m, hm⟩ := qg_some (show n < r.1.length by omega)
    refine And.intro (by omega) ?_
    have e : M.1 22 f (n : Int).toNat = (m : Int) := hF.2.2.2.1 n m hm
    rw [if_pos c1.1, Int.toNat_natCast, hm] at h
    have h : Q (some (.inl (m : Int))) M := h
    rw [← e] at h
    exact h
  · by_cases h0 : 0 ≤ v
    · rw [if_pos h0, List.getElem?_eq_none (by omega)] at h
      exact h
    · rw [if_neg h0] at h
      exact h
set_option maxRecDepth 100000 in
theorem sp_X2_hasLineOn {f len p : Nat} {r : List Nat × Nat} {x : Int} {M : mv_M} {Q : mv_R} (hx : x = (p : Int)) (hF : qr_F M f len r) (hp : p < 3) (h1 : 0 < qg_onp p r.1 → Q (some (.inl 1)) M) (h0 : ¬ 0 < qg_onp p r.1 → Q (some (.inl 0)) M) : E_X2_hasLineOn [.inr (2, f), .inl x] M Q := by
  subst hx
  refine ev_X2_hasLineOn ?_
  refine go_X2_hasLineOn [] 60 ?_
  have e : M.1 23 f (p : Int).toNat = (qg_onp p r.1 : Int) := hF.2.2.2.2 p hp
  refine And.intro (by omega) ?_
  refine And.intro (fun c1 => ?_) (fun c1 => ?_)
  · exact And.intro (Or.inl rfl) (h0 (by omega))
  · exact And.intro (Or.inr rfl) (h1 (by omega))
/-- how many modules from a to b are taken by codes from v on -/
def qg_cnt (T : Nat → Nat) (a v : Nat) : Nat → Nat
  | 0 => 0
  | n + 1 => qg_cnt T a v n + (if v ≤ T (a + n) then 1 else 0)
theorem qg_cnt_le (T : Nat → Nat) (a v : Nat) : ∀ n, qg_cnt T a v n ≤ n
  | 0 => Nat.le_refl _
  | n + 1 => by
    have := qg_cnt_le T a v n
    unfold qg_cnt
    split <;> omega
set_option maxRecDepth 100000 in
theorem sp_X4_takenBetween {lam a n v : Nat} {C : qg_C} {x y z : Int} {M : mv_M} {Q : mv_R} (hx : x = (a : Int)) (hy : y = ((a + n : Nat) : Int)) (hz : z = (v : Int)) (hL : qr_L M lam C) (hn : a + n ≤ 360) (h : Q (some (.inl (qg_cnt (qg_lay C).1 a v n : Int))) M) : E_X4_takenBetween [.inr (4, lam), .inl x, .inl y, .inl z] M Q := by
  subst hx; subst hy; subst hz
  refine ev_X4_takenBetween ?_
  refine go_X4_takenBetween [6] 60 ?_
  have hl : ∀ (i : Nat) (s : Unit), i ≤ n → ∀ (w u : Int), w = (qg_cnt (qg_lay C).1 a v i : Int) → u = ((a + i : Nat) : Int) → J_X4_takenBetween Q 6 [some (.inr (4, lam)), some (.inl (a : Int)), some (.inl ((a + n : Nat) : Int)), some (.inl (v : Int)), some (.inl w), some (.inl u)] [] M := by
    refine mv_loop n (fun i _ hi ih w u hw hu => ?_)
    subst hw; subst hu
    refine go_X4_takenBetween [6] 60 ?_
    have hle := qg_cnt_le (qg_lay C).1 a v i
    refine And.intro (fun c1 => ?_) (fun c1 => ?_)
    · have : i = n := by omega
      subst this
      exact h
    · have hlt : i < n := by omega
      have e : M.1 20 lam ((a + i : Nat) : Int).toNat = ((qg_lay C).1 (a + i) : Int) := hL.2.1 (a + i) (by omega)
      refine And.intro (by omega) ?_
      have ih := ih () hlt
      unfold qg_cnt at ih
      refine And.intro (fun c2 => ?_) (fun c2 => ?_)
      · refine And.intro (by omega) ?_
        exact ih _ _ (by rw [if_neg (by omega)]; rfl) (by omega)
      · refine And.intro (by omega) ?_
        refine And.intro (by omega) ?_
        exact ih _ _ (by rw [if_pos (by omega)]; omega) (by omega)
  exact hl 0 () (Nat.zero_le _) _ _ rfl (by omega)
def qg_sum (f : Nat → Nat) : Nat → Nat
  | 0 => 0
  | n + 1 => qg_sum f n + f n
theorem qg_sum_succ (f : Nat → Nat) (n : Nat) : qg_sum f (n + 1) = qg_sum f n + f n := rfl
theorem qg_sum_le {f : Nat → Nat} {b : Nat} : ∀ n, (∀ i, i < n → f i ≤ b) → qg_sum f n ≤ n * b
  | 0, _ => by simp [qg_sum]
  | n + 1, h => by
    have := qg_sum_le n (fun i hi => h i (by omega))
    have h2 := h n (by omega)
    unfold qg_sum
    rw [Nat.succ_mul]
    omega
theorem qr_F.ov {M : mv_M} {f len : Nat} {r : List Nat × Nat} (h : qr_F M f len r) (hl : r.1.length ≤ len) : M.1 2 f 3 = ((len - r.1.length : Nat) : Int) := by
  have := h.2.1
  omega
set_option maxRecDepth 100000 in
theorem sp_X4_oversetInAll {lam : Nat} {C : qg_C} {M : mv_M} {Q : mv_R} (hL : qr_L M lam C) (hw : qg_wC C) (h : Q (some (.inl (qg_sum (qg_ov C) C.1.length : Int))) M) : E_X4_oversetInAll [.inr (4, lam)] M Q := by
  refine ev_X4_oversetInAll ?_
  refine go_X4_oversetInAll [4] 60 ?_
  have w6 := hw.1
  have hb : ∀ i, i < C.1.length → qg_ov C i ≤ 200 := fun i hi => by
    have := qg_lay_ok hw hi
    unfold qg_ov; omega
  have hl : ∀ (i : Nat) (s : Unit), i ≤ C.1.length → ∀ (w : Int), w = (qg_sum (qg_ov C) i : Int) → J_X4_oversetInAll Q 4 [some (.inr (4, lam)), some (.inl w), some (.inl (i : Int))] [] M := by
    refine mv_loop C.1.length (fun i _ hi ih w hw' => ?_)
    subst hw'
    refine go_X4_oversetInAll [4] 60 ?_
    have e2 := hL.1
    have hs := qg_sum_le (f := qg_ov C) (b := 200) i (fun k hk => hb k (by omega))
    refine And.intro (fun c1 => ?_) (fun c1 => ?_)
    · have : i = C.1.length := by omega
      subst this
      exact h
    · have hlt : i < C.1.length := by omega
      have e : M.1 2 (6 * lam + (i : Int).toNat) 3 = (qg_ov C i : Int) := (hL.at hlt).ov (qg_lay_ok hw hlt).2.1
      have := hb i hlt
      refine And.intro (by omega) ?_
      refine And.intro (by omega) ?_
      refine And.intro (by omega) ?_
      refine ih () hlt _ ?_
      rw [qg_sum_succ]
      omega
  exact hl 0 () (Nat.zero_le _) _ rfl
set_option maxRecDepth 100000 in
theorem sp_X4_jumpsInAll {lam : Nat} {C : qg_C} {M : mv_M} {Q : mv_R} (hL : qr_L M lam C) (hw : qg_wC C) (h : Q (some (.inl (qg_sum (qg_ju C) C.1.length : Int))) M) : E_X4_jumpsInAll [.inr (4, lam)] M Q := by
  refine ev_X4_jumpsInAll ?_
  refine go_X4_jumpsInAll [4] 60 ?_
  have w6 := hw.1
  have hb : ∀ i, i < C.1.length → qg_ju C i ≤ 360 := fun i hi => (qg_lay_ok hw hi).2.2.1
  have hl : ∀ (i : Nat) (s : Unit), i ≤ C.1.length → ∀ (w : Int), w = (qg_sum (qg_ju C) i : Int) → J_X4_jumpsInAll Q 4 [some (.inr (4, lam)), some (.inl w), some (.inl (i : Int))] [] M := by
    refine mv_loop C.1.length (fun i _ hi ih w hw' => ?_)
    subst hw'
    refine go_X4_jumpsInAll [4] 60 ?_
    have e2 := hL.1
    have hs := qg_sum_le (f := qg_ju C) (b := 360) i (fun k hk => hb k (by omega))
    refine And.intro (fun c1 => ?_) (fun c1 => ?_)
    · have : i = C.1.length := by omega
      subst this
      exact h
    · have hlt : i < C.1.length := by omega
      have e : M.1 2 (6 * lam + (i : Int).toNat) 4 = (qg_ju C i : Int) := (hL.at hlt).2.2.1
      have := hb i hlt
      refine And.intro (by omega) ?_
      refine And.intro (by omega) ?_
      refine And.intro (by omega) ?_
      refine ih () hlt _ ?_
      rw [qg_sum_succ]
      omega
  exact hl 0 () (Nat.zero_le _) _ rfl
/-- some article is overset by more lines in C than in D -/
def qg_more (C D : qg_C) : Prop := ∃ i, i < C.1.length ∧ qg_ov D i < qg_ov C i
set_option maxRecDepth 100000 in
theorem sp_X4_isMoreOverset {lam mu : Nat} {C D : qg_C} {M : mv_M} {Q : mv_R} (hL : qr_L M lam C) (hw : qg_wC C) (hD : qr_L M mu D) (hv : qg_wC D) (hlen : C.1.length = D.1.length) (h1 : qg_more C D → Q (some (.inl 1)) M) (h0 : ¬ qg_more C D → Q (some (.inl 0)) M) : E_X4_isMoreOverset [.inr (4, lam), .inr (4, mu)] M Q := by
  refine ev_X4_isMoreOverset ?_
  refine go_X4_isMoreOverset [2] 60 ?_
  have w6 := hw.1
  have hl : ∀ (i : Nat) (s : Unit), i ≤ C.1.length → (∀ k, k < i → ¬ qg_ov D k < qg_ov C k) → J_X4_isMoreOverset Q 2 [some (.inr (4, lam)), some (.inr (4, mu)), some (.inl (i : Int))] [] M := by
    refine mv_loop C.1.length (fun i _ hi ih hk => ?_)
    refine go_X4_isMoreOverset [2] 60 ?_
    have e2 := hL.1
    refine And.intro (fun c1 => ?_) (fun c1 => ?_)
    · have : i = C.1.length := by omega
      subst this
      exact And.intro (Or.inl rfl) (h0 (fun ⟨k, z1, z2⟩ => hk k z1 z2))
    · have hlt : i < C.1.length := by omega
      have e : M.1 2 (6 * lam + (i : Int).toNat) 3 = (qg_ov C i : Int) := (hL.at hlt).ov (qg_lay_ok hw hlt).2.1
      have e' : M.1 2 (6 * mu + (i : Int).toNat) 3 = (qg_ov D i : Int) := (hD.at (by omega)).ov (qg_lay_ok hv (by omega)).2.1
      refine And.intro (by omega) ?_
      refine And.intro (by omega) ?_
      refine And.intro (fun c2 => ?_) (fun c2 => ?_)
      · refine And.intro (by omega) ?_
        refine ih () hlt (fun k hki => ?_)
        by_cases hki2 : k = i
        · subst hki2; omega
        · exact hk k (by omega)
      · exact And.intro (Or.inr rfl) (h1 ⟨i, hlt, by omega⟩)
  exact hl 0 () (Nat.zero_le _) (fun k hk => absurd hk (by omega))
/-- the module of a sentence -/
def qg_sent (C : qg_C) (a s : Nat) : Option Nat := (C.1[a]?).bind (fun A => (A.2.2[s]?).bind (fun l => (qg_ls C a)[l]?))
def qg_dist (C : qg_C) (q : qg_Q) : Option Nat := q.2.2.2.2.bind (fun p => (qg_sent C q.1 q.2.1).bind (fun m => if m / 120 = p.1 then some (max (qg_gap p.2.1 q.2.2.1 (m % 120 / 20) 1) (qg_gap p.2.2 q.2.2.2.1 (m % 20) 1)) else none))
set_option maxRecDepth 100000 in
theorem sp_X4_distanceFromSentence {lam c a : Nat} {C : qg_C} {q : qg_Q} {M : mv_M} {Q : mv_R} (hL : qr_L M lam C) (hC : qr_C M c C) (hw : qg_wC C) (hq : qr_Q M a q) (hwq : qg_wQ q) (hown : qg_own C.1 q) (h : Q (some (.inl (qg_oi (qg_dist C q)))) M) : E_X4_distanceFromSentence [.inr (4, lam), .inr (1, c), .inr (5, a)] M Q := by
  refine ev_X4_distanceFromSentence ?_
  refine go_X4_distanceFromSentence [] 90 ?_
  have hP := hq.2.2.2.2
  obtain ⟨A, hA, hs⟩ := hown
  have hlt := (List.getElem?_eq_some_iff.mp hA).1
  have hwA := hw.2.2.1 A (List.mem_of_getElem? hA)
  obtain ⟨l, hl⟩ := qg_some hs
  have e0 := hq.1
  have e1 := hq.2.1
  have eL := hL.1
  have w6 := hw.1
  have w8 := hwA.2.2.2.1
  have n0 : (M.1 5 a 0).toNat = q.1 := by omega
  have n1 : (M.1 5 a 1).toNat = q.2.1 := by omega
  unfold qg_dist at h
  refine And.intro (fun c1 => ?_) (fun c1 => ?_)
  · cases ho : q.2.2.2.2 with
    | none => rw [ho] at h; exact h
    | some p =>
      rw [ho] at hP
      have : M.1 5 a 4 = 1 := hP.1
      omega
  · cases ho : q.2.2.2.2 with
    | none => rw [ho] at hP; exact absurd hP c1
    | some p =>
      rw [ho] at h hP
      have h : Q (some (.inl (qg_oi ((qg_sent C q.1 q.2.1).bind (fun m => if m / 120 = p.1 then some (max (qg_gap p.2.1 q.2.2.1 (m % 120 / 20) 1) (qg_gap p.2.2 q.2.2.2.1 (m % 20) 1)) else none))))) M := h
      have hsent : qg_sent C q.1 q.2.1 = (qg_ls C q.1)[l]? := by unfold qg_sent; rw [hA]; show (A.2.2[q.2.1]?).bind _ = _; rw [hl]; rfl
      rw [hsent] at h
      refine And.intro (fun c2 => ?_) (fun c2 => absurd c2 (by omega))
      refine And.intro (by omega) ?_
      rw [n0]
      have hAr := hC.2.2.1 q.1 A hA
      have e3 : M.1 0 (6 * c + q.1) 3 = (A.2.2.length : Int) := hAr.2.2.1
      refine And.intro (fun c3 => ?_) (fun c3 => absurd c3 (by omega))
      refine And.intro (by omega) ?_
      rw [n1]
      have el : M.1 15 (6 * c + q.1) q.2.1 = (l : Int) := hAr.2.2.2 q.2.1 l hl
      refine And.intro (by omega) ?_
      rw [n0]
      have hok := qg_lay_ok hw hlt
      refine sp_X2_moduleOf (hL.at hlt) (by show (qg_ls C q.1).length ≤ 200; omega) ?_
      rw [el]
      have hati : qg_ati (qg_ls C q.1) (l : Int) = (qg_ls C q.1)[l]? := by unfold qg_ati; rw [if_pos (by omega), Int.toNat_natCast]
      show mv_push _ _ _ _ (some (.inl (qg_oi (qg_ati (qg_ls C q.1) (l : Int))))) M
      rw [hati]
      cases hm : (qg_ls C q.1)[l]? with
      | none =>
        rw [hm] at h
        refine And.intro (fun _ => h) (fun c4 => absurd rfl c4)
      | some m =>
        rw [hm] at h
        have h : Q (some (.inl (qg_oi (if m / 120 = p.1 then some (max (qg_gap p.2.1 q.2.2.1 (m % 120 / 20) 1) (qg_gap p.2.2 q.2.2.2.1 (m % 20) 1)) else none)))) M := h
        have em : qg_oi (some m) = (m : Int) := rfl
        refine And.intro (fun c4 => ?_) (fun c4 => ?_)
        · rw [em] at c4; omega
        · refine sp_pageOf (m := m) rfl ?_
          have e5 : M.1 5 a 5 = (p.1 : Int) := hP.2.1
          refine And.intro (fun c5 => ?_) (fun c5 => ?_)
          · rw [if_pos (by omega)] at h
            exact sp_X5_distanceFromModule (m := m) hq hwq ho h
          · rw [if_neg (by omega)] at h
            exact h
