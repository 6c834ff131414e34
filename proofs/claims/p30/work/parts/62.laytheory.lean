/-! What the flow of articles does to the modules. -/
theorem pz_pour_keep (i len : Nat) : ∀ (n k : Nat) (T : Nat → Nat) (ls : List Nat) (lp j : Nat) (m : Nat), T m ≠ 0 → (qg_pour i len n k T ls lp j).1 m = T m
  | 0, _, _, _, _, _, _, _ => rfl
  | n + 1, k, T, ls, lp, j, m, h => by
    have hu : T k = 0 → ∀ v, qg_up T k v m = T m := fun h0 v => if_neg (fun e => h (by rw [e]; exact h0))
    unfold qg_pour
    split
    · split
      · rename_i h0
        split
        · rw [pz_pour_keep i len n _ _ _ _ _ m (by rw [hu h0]; exact h), hu h0]
        · rw [pz_pour_keep i len n _ _ _ _ _ m (by rw [hu h0]; exact h), hu h0]
      · exact pz_pour_keep i len n _ _ _ _ _ m h
    · rfl
theorem pz_pour_new (i len : Nat) : ∀ (n k : Nat) (T : Nat → Nat) (ls : List Nat) (lp j : Nat) (m : Nat), T m = 0 → (qg_pour i len n k T ls lp j).1 m ≤ 11 + i
  | 0, _, T, _, _, _, m, h => by show T m ≤ 11 + i; rw [h]; omega
  | n + 1, k, T, ls, lp, j, m, h => by
    have hu : ∀ v, v ≤ 11 + i → (qg_up T k v m = 0 ∨ (qg_up T k v m ≠ 0 ∧ qg_up T k v m ≤ 11 + i)) := fun v hv => by
      unfold qg_up
      split
      · by_cases h0 : v = 0
        · exact Or.inl h0
        · exact Or.inr ⟨h0, hv⟩
      · exact Or.inl h
    have go : ∀ v, v ≤ 11 + i → ∀ ls lp j, (qg_pour i len n (k + 1) (qg_up T k v) ls lp j).1 m ≤ 11 + i := fun v hv ls lp j => by
      rcases hu v hv with h1 | ⟨h1, h2⟩
      · exact pz_pour_new i len n _ _ _ _ _ m h1
      · rw [pz_pour_keep i len n _ _ _ _ _ m h1]; exact h2
    unfold qg_pour
    split
    · split
      · split
        · exact go _ (by omega) _ _ _
        · exact go _ (by omega) _ _ _
      · exact pz_pour_new i len n _ _ _ _ _ m h
    · show T m ≤ _; rw [h]; omega
/-- how many modules are taken more: the lines and the notices -/
theorem pz_pour_cnt (i len : Nat) : ∀ (n k : Nat) (T : Nat → Nat) (ls : List Nat) (lp j : Nat), k + n ≤ 360 →
    qg_cnt (qg_pour i len n k T ls lp j).1 0 1 360 + ls.length + j = qg_cnt T 0 1 360 + (qg_pour i len n k T ls lp j).2.1.length + (qg_pour i len n k T ls lp j).2.2
  | 0, _, _, _, _, _, _ => rfl
  | n + 1, k, T, ls, lp, j, hk => by
    unfold qg_pour
    split
    · split
      · rename_i h0
        split
        · have h := pz_pour_cnt i len n (k + 1) (qg_up T k (11 + i)) ls (k / 120) (j + 1) (by omega)
          rw [pz_cnt_up h0 (by omega), if_pos (by omega)] at h
          omega
        · have h := pz_pour_cnt i len n (k + 1) (qg_up T k (1 + i)) (ls ++ [k]) (k / 120) j (by omega)
          rw [pz_cnt_up h0 (by omega), if_pos (by omega), List.length_append, List.length_singleton] at h
          omega
      · exact pz_pour_cnt i len n (k + 1) T ls lp j (by omega)
    · rfl
/-- the lines lie where the article's number stands, one behind the other -/
theorem pz_pour_line (i len s : Nat) : ∀ (n k : Nat) (T : Nat → Nat) (ls : List Nat) (lp j : Nat), s ≤ k → ls.Pairwise (· < ·) → (∀ m ∈ ls, m < k ∧ s ≤ m ∧ T m = 1 + i) →
    (qg_pour i len n k T ls lp j).2.1.Pairwise (· < ·) ∧ ∀ m ∈ (qg_pour i len n k T ls lp j).2.1, s ≤ m ∧ (qg_pour i len n k T ls lp j).1 m = 1 + i
  | 0, k, T, ls, lp, j, hs, hp, hm => ⟨hp, fun m h => ⟨(hm m h).2.1, (hm m h).2.2⟩⟩
  | n + 1, k, T, ls, lp, j, hs, hp, hm => by
    have hu : ∀ v m, m ∈ ls → qg_up T k v m = 1 + i := fun v m h => by
      have h1 := hm m h
      have : ¬ m = k := by omega
      exact (if_neg this).trans h1.2.2
    unfold qg_pour
    split
    · split
      · split
        · exact pz_pour_line i len s n (k + 1) _ ls _ _ (by omega) hp (fun m h => ⟨by have := hm m h; omega, (hm m h).2.1, hu _ m h⟩)
        · refine pz_pour_line i len s n (k + 1) _ (ls ++ [k]) _ _ (by omega) ?_ (fun m h => ?_)
          · rw [List.pairwise_append]
            exact ⟨hp, List.pairwise_singleton _ _, fun a ha b hb => by rw [List.mem_singleton.mp hb]; exact (hm a ha).1⟩
          · rcases List.mem_append.mp h with q | q
            · exact ⟨by have := hm m q; omega, (hm m q).2.1, hu _ m q⟩
            · rw [List.mem_singleton.mp q]
              exact ⟨by omega, hs, if_pos rfl⟩
      · exact pz_pour_line i len s n (k + 1) T ls lp j (by omega) hp (fun m h => ⟨by have := hm m h; omega, (hm m h).2⟩)
    · exact ⟨hp, fun m h => ⟨(hm m h).2.1, (hm m h).2.2⟩⟩
-- all articles
theorem pz_layA_keep : ∀ (as : List qg_A) (i : Nat) (T : Nat → Nat) (m : Nat), T m ≠ 0 → (qg_layA as i T).1 m = T m
  | [], _, _, _, _ => rfl
  | a :: as, i, T, m, h => by
    have h1 := pz_pour_keep i a.2.1 (360 - a.1) a.1 T [] 0 0 m h
    show (qg_layA as (i + 1) (qg_pour i a.2.1 (360 - a.1) a.1 T [] 0 0).1).1 m = T m
    rw [pz_layA_keep as (i + 1) _ m (by rw [h1]; exact h), h1]
theorem pz_layA_new : ∀ (as : List qg_A) (i : Nat) (T : Nat → Nat) (m : Nat), T m = 0 → (qg_layA as i T).1 m ≤ 11 + i + as.length
  | [], i, T, m, h => by show T m ≤ 11 + i + 0; rw [h]; omega
  | a :: as, i, T, m, h => by
    have h1 := pz_pour_new i a.2.1 (360 - a.1) a.1 T [] 0 0 m h
    show (qg_layA as (i + 1) (qg_pour i a.2.1 (360 - a.1) a.1 T [] 0 0).1).1 m ≤ _
    rw [List.length_cons]
    by_cases h0 : (qg_pour i a.2.1 (360 - a.1) a.1 T [] 0 0).1 m = 0
    · have := pz_layA_new as (i + 1) _ m h0
      omega
    · rw [pz_layA_keep as (i + 1) _ m h0]
      omega
theorem pz_layA_cnt : ∀ (as : List qg_A) (i : Nat) (T : Nat → Nat), (∀ a ∈ as, a.1 < 360) → qg_cnt (qg_layA as i T).1 0 1 360 = qg_cnt T 0 1 360 + ((qg_layA as i T).2.map (fun r => r.1.length + r.2)).sum
  | [], i, T, _ => by
    have e : qg_layA [] i T = (T, []) := rfl
    rw [e, List.map_nil, List.sum_nil, Nat.add_zero]
  | a :: as, i, T, h => by
    have ha := h a List.mem_cons_self
    have h1 := pz_pour_cnt i a.2.1 (360 - a.1) a.1 T [] 0 0 (by omega)
    have h2 := pz_layA_cnt as (i + 1) (qg_pour i a.2.1 (360 - a.1) a.1 T [] 0 0).1 (fun b hb => h b (List.mem_cons_of_mem _ hb))
    show qg_cnt (qg_layA as (i + 1) (qg_pour i a.2.1 (360 - a.1) a.1 T [] 0 0).1).1 0 1 360 = qg_cnt T 0 1 360 + (((qg_pour i a.2.1 (360 - a.1) a.1 T [] 0 0).2 :: (qg_layA as (i + 1) (qg_pour i a.2.1 (360 - a.1) a.1 T [] 0 0).1).2).map (fun r => r.1.length + r.2)).sum
    rw [h2, List.map_cons, List.sum_cons]
    simp only [List.length_nil, Nat.add_zero] at h1
    omega
theorem pz_layA_line : ∀ (as : List qg_A) (i : Nat) (T : Nat → Nat) (k : Nat) (a : qg_A) (r : List Nat × Nat), as[k]? = some a → (qg_layA as i T).2[k]? = some r → r.1.Pairwise (· < ·) ∧ ∀ m ∈ r.1, a.1 ≤ m ∧ (qg_layA as i T).1 m = 1 + (i + k)
  | [], _, _, k, a, r, h, _ => by simp at h
  | b :: as, i, T, 0, a, r, h1, h2 => by
    have h1 : some b = some a := h1
    cases h1
    have h2 : some (qg_pour i b.2.1 (360 - b.1) b.1 T [] 0 0).2 = some r := h2
    cases h2
    obtain ⟨p1, p2⟩ := pz_pour_line i b.2.1 b.1 (360 - b.1) b.1 T [] 0 0 (Nat.le_refl _) List.Pairwise.nil (fun m h => by cases h)
    refine ⟨p1, fun m hm => ⟨(p2 m hm).1, ?_⟩⟩
    have h3 := (p2 m hm).2
    show (qg_layA as (i + 1) (qg_pour i b.2.1 (360 - b.1) b.1 T [] 0 0).1).1 m = 1 + (i + 0)
    rw [pz_layA_keep as (i + 1) _ m (by rw [h3]; omega), h3]
    omega
  | b :: as, i, T, k + 1, a, r, h1, h2 => by
    have h := pz_layA_line as (i + 1) (qg_pour i b.2.1 (360 - b.1) b.1 T [] 0 0).1 k a r h1 h2
    refine ⟨h.1, fun m hm => ⟨(h.2 m hm).1, ?_⟩⟩
    show (qg_layA as (i + 1) (qg_pour i b.2.1 (360 - b.1) b.1 T [] 0 0).1).1 m = _
    rw [(h.2 m hm).2]
    omega
theorem pz_sum_take {α : Type} (g : α → Nat) (d : α) (l : List α) : ∀ n, n ≤ l.length → qg_sum (fun k => g (l.getD k d)) n = ((l.take n).map g).sum
  | 0, _ => rfl
  | n + 1, h => by
    have hx : l[n]? = some (l.getD n d) := by
      rw [List.getD_eq_getElem?_getD, List.getElem?_eq_getElem (by omega)]; rfl
    rw [qg_sum_succ, pz_sum_take g d l n (by omega), qg_take hx, List.map_append, List.sum_append]
    simp
-- a content's layout
theorem pz_ls_at {C : qg_C} {k : Nat} {A : qg_A} (h : C.1[k]? = some A) : (qg_ls C k).Pairwise (· < ·) ∧ ∀ m ∈ qg_ls C k, A.1 ≤ m ∧ (qg_lay C).1 m = 1 + k := by
  have hk := (List.getElem?_eq_some_iff.mp h).1
  obtain ⟨a, h1, h2⟩ := qg_lay_at (C := C) hk
  rw [h] at h1
  cases h1
  have := pz_layA_line C.1 0 (pz_T0 C) k A _ h h2
  refine ⟨this.1, fun m hm => ⟨(this.2 m hm).1, ?_⟩⟩
  have h3 := (this.2 m hm).2
  rw [Nat.zero_add] at h3
  exact h3
theorem pz_lay_cnt {C : qg_C} (hw : qg_wC C) : qg_cnt (qg_lay C).1 0 1 360 = qg_cnt (pz_T0 C) 0 1 360 + qg_sum (fun k => (qg_ls C k).length + qg_ju C k) C.1.length := by
  have h := pz_layA_cnt C.1 0 (pz_T0 C) (fun a ha => (hw.2.2.1 a ha).1)
  have h2 := pz_sum_take (fun r : List Nat × Nat => r.1.length + r.2) ([], 0) (qg_lay C).2 C.1.length (by rw [qg_lay_len]; exact Nat.le_refl _)
  rw [List.take_of_length_le (by rw [qg_lay_len]; exact Nat.le_refl _)] at h2
  show qg_cnt (qg_layA C.1 0 (pz_T0 C)).1 0 1 360 = _
  rw [h]
  congr 1
  exact h2.symm
theorem pz_lay_21 {C : qg_C} (hw : qg_wC C) (m : Nat) : 21 ≤ (qg_lay C).1 m ↔ 21 ≤ pz_T0 C m := by
  by_cases h0 : pz_T0 C m = 0
  · have := pz_layA_new C.1 0 (pz_T0 C) m h0
    have h6 := hw.1
    have : (qg_lay C).1 m ≤ 17 := by show (qg_layA C.1 0 (pz_T0 C)).1 m ≤ 17; omega
    omega
  · have : (qg_lay C).1 m = pz_T0 C m := pz_layA_keep C.1 0 (pz_T0 C) m h0
    rw [this]
/-- the modules that quotes take on a page -/
theorem pz_page_cnt {C : qg_C} (hw : qg_wC C) (hin : qg_inC C) (hd : pz_dj C.2.1) (P : Nat) : qg_cnt (qg_lay C).1 (120 * P) 21 120 = pz_aS P C.2.1 := by
  rw [pz_cnt_le _ (pz_T0 C) (120 * P) 21 21 120 (fun i _ => pz_lay_21 hw _)]
  exact pz_T0_cnt C hin hd P 21 (by omega) (by omega)
/-- the modules of all placed quotes -/
def pz_at (q : qg_Q) : Nat := match q.2.2.2.2 with
  | none => 0
  | some _ => q.2.2.1 * q.2.2.2.1
theorem pz_at_aq {q : qg_Q} (hw : qg_wQ q) : pz_at q = pz_aq 0 q + pz_aq 1 q + pz_aq 2 q := by
  unfold pz_at pz_aq
  cases hp : q.2.2.2.2 with
  | none => rfl
  | some p =>
    have h3 := (hw.2.2.2.2 p hp).1
    dsimp only
    rcases (show p.1 = 0 ∨ p.1 = 1 ∨ p.1 = 2 by omega) with e | e | e <;> rw [e] <;> simp
theorem pz_at_sum : ∀ qs : List qg_Q, (∀ q ∈ qs, qg_wQ q) → (qs.map pz_at).sum = pz_aS 0 qs + pz_aS 1 qs + pz_aS 2 qs
  | [], _ => rfl
  | q :: qs, h => by
    rw [List.map_cons, List.sum_cons, pz_at_sum qs (fun r hr => h r (List.mem_cons_of_mem _ hr)), pz_at_aq (h q List.mem_cons_self), pz_aS_cons, pz_aS_cons, pz_aS_cons]
    omega
/-- the modules of the quote k -/
def pz_qa (C : qg_C) (k : Nat) : Nat := pz_at (C.2.1.getD k (0, 0, 0, 0, none))
/-- all that is taken -/
theorem pz_taken {C : qg_C} (hw : qg_wC C) (hin : qg_inC C) (hd : pz_dj C.2.1) : qg_cnt (qg_lay C).1 0 1 360 = qg_sum (fun k => (qg_ls C k).length + qg_ju C k) C.1.length + qg_sum (pz_qa C) C.2.1.length := by
  rw [pz_lay_cnt hw, pz_cnt_pages (pz_T0 C), pz_T0_cnt C hin hd 0 1 (by omega) (by omega), pz_T0_cnt C hin hd 1 1 (by omega) (by omega), pz_T0_cnt C hin hd 2 1 (by omega) (by omega)]
  have h2 := pz_sum_take pz_at (0, 0, 0, 0, none) C.2.1 C.2.1.length (Nat.le_refl _)
  rw [List.take_length, pz_at_sum C.2.1 (fun q hq => (hw.2.2.2.1 q hq).1)] at h2
  have h3 : qg_sum (pz_qa C) C.2.1.length = qg_sum (fun k => pz_at (C.2.1.getD k (0, 0, 0, 0, none))) C.2.1.length := rfl
  rw [h3, h2]
  omega
/-- a page's balance is at most what quotes take there -/
theorem pz_lean_b {w h c : Nat} (hh : h ≤ 6) : -((w * h : Nat) : Int) ≤ qg_lean w h c ∧ qg_lean w h c ≤ ((w * h : Nat) : Int) := by
  unfold qg_lean
  rcases (show h = 0 ∨ h = 1 ∨ h = 2 ∨ h = 3 ∨ h = 4 ∨ h = 5 ∨ h = 6 by omega) with rfl | rfl | rfl | rfl | rfl | rfl | rfl <;> constructor <;> omega
theorem pz_leanQ_b {P : Nat} {q : qg_Q} (hw : qg_wQ q) : -(pz_aq P q : Int) ≤ qg_leanQ P q ∧ qg_leanQ P q ≤ (pz_aq P q : Int) := by
  unfold qg_leanQ pz_aq
  cases hp : q.2.2.2.2 with
  | none => simp
  | some p =>
    dsimp only
    by_cases e : p.1 = P
    · rw [if_pos e, if_pos e]
      exact pz_lean_b hw.2.2.2.1
    · rw [if_neg e, if_neg e]
      simp
theorem pz_leanS_b (P : Nat) : ∀ qs : List qg_Q, (∀ q ∈ qs, qg_wQ q) → -(pz_aS P qs : Int) ≤ qg_leanS qs P ∧ qg_leanS qs P ≤ (pz_aS P qs : Int)
  | [], _ => by simp [qg_leanS, pz_aS]
  | q :: qs, h => by
    have h1 := pz_leanS_b P qs (fun r hr => h r (List.mem_cons_of_mem _ hr))
    have h2 := pz_leanQ_b (P := P) (h q List.mem_cons_self)
    have e : qg_leanS (q :: qs) P = qg_leanQ P q + qg_leanS qs P := by simp [qg_leanS]
    rw [e, pz_aS_cons]
    omega
theorem pz_bal_le {C : qg_C} (hw : qg_wC C) (P : Nat) : qg_bal C.2.1 P ≤ (pz_aS P C.2.1 : Int) := by
  have h := pz_leanS_b P C.2.1 (fun q hq => (hw.2.2.2.1 q hq).1)
  unfold qg_bal
  split <;> omega
/-- the first module of a placed quote -/
theorem pz_corner {C : qg_C} (hw : qg_wC C) (hd : pz_dj C.2.1) {k : Nat} {q : qg_Q} {p : Nat × Nat × Nat} (hq : C.2.1[k]? = some q) (hp : q.2.2.2.2 = some p) : (qg_lay C).1 (120 * p.1 + 20 * p.2.1 + p.2.2) = 21 + k := by
  have hwq := (hw.2.2.2.1 q (List.mem_of_getElem? hq)).1
  have h3 := hwq.2.2.2.2 p hp
  have hc : qg_cov q (120 * p.1 + 20 * p.2.1 + p.2.2) = true := pz_cov_of hp (by
    have := hwq.1
    have := hwq.2.2.1
    omega)
  have h := pz_qT_some C.2.1 0 (fun _ => 0) _ k q hd hq hc
  have h0 : pz_T0 C (120 * p.1 + 20 * p.2.1 + p.2.2) = 21 + 0 + k := h
  have h2 : (qg_lay C).1 (120 * p.1 + 20 * p.2.1 + p.2.2) = pz_T0 C (120 * p.1 + 20 * p.2.1 + p.2.2) := pz_layA_keep C.1 0 (pz_T0 C) _ (by omega)
  rw [h2, h0]
/-- a quote that is put where it is -/
theorem pz_put_self {C : qg_C} {k : Nat} {q : qg_Q} (hq : C.2.1[k]? = some q) {o : Option (Nat × Nat × Nat)} (ho : q.2.2.2.2 = o) : qg_put C k o = C := by
  rw [qg_put_eq hq]
  have e : qg_mv q o = q := by rw [← ho]
  rw [e]
  have hl := (List.getElem?_eq_some_iff.mp hq)
  have : C.2.1.set k q = C.2.1 := by
    rw [← hl.2]
    exact List.set_getElem_self hl.1
  rw [this]
/-- at a bad distance from its sentence it would be refused -/
theorem pz_bad_reason {C : qg_C} {k : Nat} {q : qg_Q} {p : Nat × Nat × Nat} (hq : C.2.1[k]? = some q) (hp : q.2.2.2.2 = some p) (hr : qg_reason C k p = 0) : ¬ qg_bad C q := by
  intro hb
  unfold qg_reason at hr
  by_cases h1 : qg_out C k p
  · rw [qg_if_pos h1] at hr; omega
  rw [qg_if_neg h1] at hr
  by_cases h2 : qg_near (qg_put C k (some p)) k
  · rw [qg_if_pos h2] at hr; omega
  rw [qg_if_neg h2] at hr
  by_cases h3 : qg_more (qg_put C k (some p)) (qg_put C k none)
  · rw [qg_if_pos h3] at hr; omega
  rw [qg_if_neg h3] at hr
  by_cases h4 : ¬ qg_line (qg_put C k (some p)) k p.1
  · rw [qg_if_pos h4] at hr; omega
  rw [qg_if_neg h4] at hr
  have h5 : qg_badN (qg_put C k (some p)) k := by
    rw [pz_put_self hq hp]
    exact ⟨q, hq, hb⟩
  rw [qg_if_pos h5] at hr
  omega
