/-! What the constructors make is the small machine's first memory. -/
theorem sy_lt_at : ∀ {n : Nat} {p : Nat → Bool}, sy_lt n p = true → ∀ i, i < n → p i = true
  | 0, _, _, i, hi => absurd hi (Nat.not_lt_zero i)
  | n + 1, p, h, i, hi => by
    obtain ⟨h1, h2⟩ := sy_and (a := p n) (b := sy_lt n p) h
    rcases Nat.lt_or_ge i n with z | z
    · exact sy_lt_at h2 i z
    · rw [show i = n by omega]; exact h1
theorem sy_eqo_at {o : Option (Nat × Nat)} {a b : Nat} (h : sy_eqo o a b = true) : o = some (a, b) := by
  match o, h with
  | some (c, d), h =>
    obtain ⟨h1, h2⟩ := sy_and (a := Nat.beq c a) (b := Nat.beq d b) h
    rw [Nat.eq_of_beq_eq_true h1, Nat.eq_of_beq_eq_true h2]
theorem sy_fl_in {t j : Nat} : ∀ {l : List (Nat × Nat)}, sy_in (sy_fl l t) t j = sy_in l t j
  | [] => rfl
  | (a, b) :: r => by
    show sy_in (cond (Nat.beq a t) ((a, b) :: sy_fl r t) (sy_fl r t)) t j = cond (Nat.beq a t) (cond (Nat.beq b j) true (sy_in r t j)) (sy_in r t j)
    cases h : Nat.beq a t with
    | false => exact sy_fl_in
    | true =>
      show cond (Nat.beq a t) (cond (Nat.beq b j) true (sy_in (sy_fl r t) t j)) (sy_in (sy_fl r t) t j) = _
      rw [h, sy_fl_in]
theorem sy_fr_R {t j k : Nat} : ∀ {l : List (Nat × Nat × Nat × Nat × Nat)}, sy_R (sy_fr l t) t j k = sy_R l t j k
  | [] => rfl
  | (a, b, c, d, e) :: r => by
    show sy_R (cond (Nat.beq a t) ((a, b, c, d, e) :: sy_fr r t) (sy_fr r t)) t j k = cond (Nat.beq a t) (cond (Nat.beq b j) (cond (Nat.beq c k) (some (d, e)) (sy_R r t j k)) (sy_R r t j k)) (sy_R r t j k)
    cases h : Nat.beq a t with
    | false => exact sy_fr_R
    | true =>
      show cond (Nat.beq a t) (cond (Nat.beq b j) (cond (Nat.beq c k) (some (d, e)) (sy_R (sy_fr r t) t j k)) (sy_R (sy_fr r t) t j k)) (sy_R (sy_fr r t) t j k) = _
      rw [h, sy_fr_R]
theorem sy_fz_Z {t j k : Nat} : ∀ {l : List (Nat × Nat × Nat × Int)}, sy_Z (sy_fz l t) t j k = sy_Z l t j k
  | [] => rfl
  | (a, b, c, d) :: r => by
    show sy_Z (cond (Nat.beq a t) ((a, b, c, d) :: sy_fz r t) (sy_fz r t)) t j k = cond (Nat.beq a t) (cond (Nat.beq b j) (cond (Nat.beq c k) d (sy_Z r t j k)) (sy_Z r t j k)) (sy_Z r t j k)
    cases h : Nat.beq a t with
    | false => exact sy_fz_Z
    | true =>
      show cond (Nat.beq a t) (cond (Nat.beq b j) (cond (Nat.beq c k) d (sy_Z (sy_fz r t) t j k)) (sy_Z (sy_fz r t) t j k)) (sy_Z (sy_fz r t) t j k) = _
      rw [h, sy_fz_Z]
theorem sy_fc_at {R : List (Nat × Nat × Nat × Nat × Nat)} {t j : Nat} : ∀ {l : List (Option (Nat × Nat × Nat))} {k0 i t2 a b : Nat}, sy_fc R t j l k0 = true → l[i]? = some (some (t2, a, b)) → sy_R R t j (k0 + i) = some (t2, a * j + b)
  | [], _, _, _, _, _, _, h => by simp at h
  | none :: r, k0, 0, _, _, _, _, h => by simp at h
  | none :: r, k0, i + 1, _, _, _, h, h2 => by
    rw [show k0 + (i + 1) = k0 + 1 + i by omega]
    exact sy_fc_at (l := r) h (by simpa using h2)
  | some (t3, a3, b3) :: r, k0, 0, t2, a, b, h, h2 => by
    obtain ⟨h3, -⟩ := sy_and (a := sy_eqo (sy_R R t j k0) t3 (a3 * j + b3)) h
    have h2 : some (t3, a3, b3) = some (t2, a, b) := by simpa using h2
    cases h2
    exact sy_eqo_at h3
  | some (t3, a3, b3) :: r, k0, i + 1, t2, a, b, h, h2 => by
    obtain ⟨-, h3⟩ := sy_and (a := sy_eqo (sy_R R t j k0) t3 (a3 * j + b3)) h
    rw [show k0 + (i + 1) = k0 + 1 + i by omega]
    exact sy_fc_at (l := r) h3 (by simpa using h2)
theorem sy_Z_all {t j k : Nat} : ∀ {l : List (Nat × Nat × Nat × Int)}, (∀ e ∈ l, e.2.2.2 = mg_z e.1 e.2.2.1) → sy_Z l t j k = mg_z t k ∨ sy_Z l t j k = 0
  | [], _ => Or.inr rfl
  | (a, b, c, x) :: r, h => by
    rw [sy_Z_cons]
    by_cases e : t = a ∧ j = b ∧ k = c
    · rw [if_pos e, e.1, e.2.2]
      exact Or.inl (h _ List.mem_cons_self)
    · rw [if_neg e]
      exact sy_Z_all (fun e he => h e (List.mem_cons_of_mem _ he))
theorem mg_z_nz {t k : Nat} (h : mg_z t k ≠ 0) : k < 7 ∧ (t = 14 ∨ t = 6 ∨ t = 10 ∨ t = 24) := by
  unfold mg_z at h
  repeat' split at h
  all_goals first | exact absurd rfl h | omega
theorem sy_ready {X : sy_S} {G : mg_G} (hm : sy_m X G) (hc : sy_ck X = true) :
    (∀ t j, t < 33 → j < mv_cnt t → (t, j) ∈ G.1) ∧ (∀ t j k t2 a b, t < 33 → j < mv_cnt t → (mv_fd t)[k]? = some (some (t2, a, b)) → G.2.2.1 t j k = some (G.2.1 t2 (a * j + b))) ∧ (∀ t j i, t < 33 → j < mv_cnt t → mv_rt t = true → i < mv_len t → G.2.2.1 t j i = some (G.2.1 (mv_et t) (mv_ei mg_M0 t j i))) ∧ ∀ t j k, t < 33 → j < mv_cnt t → G.2.2.2 t j k = mg_z t k := by
  obtain ⟨hc1, hc2⟩ := sy_and hc
  have cell : ∀ t j, t < 33 → j < mv_cnt t → sy_cell (sy_fl X.1 t) (sy_fr X.2.1 t) (sy_fz X.2.2 t) t j = true := fun t j ht hj => sy_lt_at (sy_lt_at hc1 t ht) j hj
  have hz : ∀ e ∈ X.2.2, e.2.2.2 = mg_z e.1 e.2.2.1 := fun e he => of_decide_eq_true (List.all_eq_true.mp hc2 e he)
  refine ⟨fun t j ht hj => ?_, fun t j k t2 a b ht hj hf => ?_, fun t j i ht hj hr hi => ?_, fun t j k ht hj => ?_⟩
  · have := (sy_and (cell t j ht hj)).1
    rw [sy_fl_in] at this
    exact (hm.1 t j).mpr this
  · have := (sy_and (sy_and (cell t j ht hj)).2).1
    have h2 := sy_fc_at this hf
    rw [sy_fr_R, Nat.zero_add] at h2
    rw [hm.2.1, h2]; rfl
  · have := (sy_and (sy_and (sy_and (cell t j ht hj)).2).2).1
    rw [hr] at this
    have h2 := sy_eqo_at (sy_lt_at this i hi)
    rw [sy_fr_R] at h2
    rw [hm.2.1, h2]; rfl
  · rw [hm.2.2.2]
    rcases sy_Z_all (t := t) (j := j) (k := k) hz with h | h
    · exact h
    · by_cases e : mg_z t k = 0
      · rw [h, e]
      · obtain ⟨hk, hs⟩ := mg_z_nz e
        have := (sy_and (sy_and (sy_and (cell t j ht hj)).2).2).2
        have hb : (Nat.beq t 14 || (Nat.beq t 6 || (Nat.beq t 10 || Nat.beq t 24))) = true := by rcases hs with rfl | rfl | rfl | rfl <;> rfl
        rw [hb] at this
        have h2 := of_decide_eq_true (sy_lt_at this k hk)
        rw [sy_fz_Z] at h2
        exact h2
/-- the place of a cell among all -/
def mv_ps (t j : Nat) : Nat := ([0, 120, 140, 158, 159, 162, 322, 323, 329, 330, 331, 332, 332, 352, 372, 392, 512, 518, 524, 525, 526, 529, 532, 550, 568, 568, 568, 568, 568, 568, 568, 568, 568] : List Nat).getD t 0 + j
def sy_idx : List (Nat × Nat) → Nat → Bool
  | [], _ => true
  | (t, j) :: r, k => Nat.beq (mv_ps t j) k && sy_idx r (k + 1)
theorem sy_idx_at : ∀ {l : List (Nat × Nat)} {k0 i : Nat} {x : Nat × Nat}, sy_idx l k0 = true → l[i]? = some x → mv_ps x.1 x.2 = k0 + i
  | [], _, _, _, _, h => by simp at h
  | (t, j) :: r, k0, 0, x, h, h2 => by
    obtain ⟨h3, -⟩ := sy_and (a := Nat.beq (mv_ps t j) k0) h
    have h2 : (t, j) = x := by simpa using h2
    subst h2
    exact Nat.eq_of_beq_eq_true h3
  | (t, j) :: r, k0, i + 1, x, h, h2 => by
    obtain ⟨-, h3⟩ := sy_and (a := Nat.beq (mv_ps t j) k0) h
    rw [show k0 + (i + 1) = k0 + 1 + i by omega]
    exact sy_idx_at (l := r) h3 (by simpa using h2)
theorem mv_IX_idx : sy_idx mv_IX 0 = true := by decide +kernel
theorem arrV_ext {c : ClassId} {n : Nat} {f g : Nat → Value} (h : ∀ i, i < n → f i = g i) : arrV c n f = arrV c n g := by
  unfold arrV
  congr 1
  apply Array.ext
  · simp
  · intro i h1 h2
    simp at h1 ⊢
    exact h i h1
section RDY
variable {D : va_G} {cA : Nat → ClassId} {A : Nat → Prop} {X : sy_S} {G : mg_G} {H : Heap}
theorem mg_toD (hm : sy_m X G) (hc : sy_ck X = true) (hD : va_D A (mg_ws cA G)) : va_D (mv_A G.2.1) (mv_ws G.2.1 cA mg_M0) := by
  have hr := sy_ready hm hc
  have key : ∀ (i : Nat) (p : Nat × va_E), (mv_ws G.2.1 cA mg_M0)[i]? = some p → ∃ x, mv_IX[i]? = some x ∧ p.1 = G.2.1 x.1 x.2 := by
    intro i p hp
    simp only [mv_ws, List.getElem?_map] at hp
    cases hx : mv_IX[i]? with
    | none => rw [hx] at hp; cases hp
    | some x => rw [hx] at hp; cases hp; exact ⟨x, rfl, rfl⟩
  refine ⟨fun i j p q hp hq e => ?_, fun i p hp => ?_⟩
  · obtain ⟨x, hx, ex⟩ := key i p hp
    obtain ⟨y, hy, ey⟩ := key j q hq
    have mx := mv_mem_IX (List.mem_of_getElem? hx)
    have my := mv_mem_IX (List.mem_of_getElem? hy)
    obtain ⟨a, ha⟩ := List.getElem?_of_mem (hr.1 x.1 x.2 mx.1 mx.2)
    obtain ⟨b, hb⟩ := List.getElem?_of_mem (hr.1 y.1 y.2 my.1 my.2)
    have hab := hD.1 a b (G.2.1 x.1 x.2, mg_cell cA G x.1 x.2) (G.2.1 y.1 y.2, mg_cell cA G y.1 y.2) (by simp only [mg_ws, List.getElem?_map, ha]; rfl) (by simp only [mg_ws, List.getElem?_map, hb]; rfl) (by rw [← ex, ← ey]; exact e)
    subst hab
    have hxy : (x.1, x.2) = (y.1, y.2) := Option.some.inj (ha.symm.trans hb)
    have e1 := sy_idx_at mv_IX_idx hx
    have e2 := sy_idx_at mv_IX_idx hy
    injection hxy with z1 z2
    rw [z1, z2, e2] at e1
    omega
  · obtain ⟨x, hx, ex⟩ := key i p hp
    exact ⟨x.1, x.2, List.mem_of_getElem? hx, ex⟩
theorem mg_toP (hm : sy_m X G) (hc : sy_ck X = true) (hP : va_P D vwCl (mg_ws cA G) H) : va_P D vwCl (mv_ws G.2.1 cA mg_M0) H := by
  obtain ⟨r1, r2, r3, r4⟩ := sy_ready hm hc
  intro i p hp
  simp only [mv_ws, List.getElem?_map] at hp
  cases hx : mv_IX[i]? with
  | none => rw [hx] at hp; cases hp
  | some x =>
    rw [hx] at hp
    cases hp
    obtain ⟨t, j⟩ := x
    have mx := mv_mem_IX (List.mem_of_getElem? hx)
    have ht : t < 33 := mx.1
    have hj : j < mv_cnt t := mx.2
    obtain ⟨a, ha⟩ := List.getElem?_of_mem (r1 t j ht hj)
    have h0 : va_at D vwCl (G.2.1 t j, mg_cell cA G t j) H := hP a _ (by simp only [mg_ws, List.getElem?_map, ha]; rfl)
    show va_at D vwCl (G.2.1 t j, mv_cell G.2.1 cA mg_M0 t j) H
    by_cases h12 : t < 12
    · have e : mg_fs G t j = mv_fs G.2.1 mg_M0 t j := by
        apply List.ext_getElem?
        intro k
        simp only [mg_fs, mv_fs, List.getElem?_mapIdx]
        cases hk : (mv_fd t)[k]? with
        | none => rfl
        | some o =>
          match o, hk with
          | none, hk =>
            show some (Value.int (Int32.ofInt (G.2.2.2 t j k))) = some (Value.int (Int32.ofInt (mg_z t k)))
            rw [r4 t j k ht hj]
          | some (t2, a, b), hk =>
            show some (va_rf (G.2.2.1 t j k)) = some (Value.ref (G.2.1 t2 (a * j + b)))
            rw [r2 t j k t2 a b ht hj hk]; rfl
      rw [mg_cell_obj h12, e] at h0
      unfold mv_cell
      rw [if_pos h12]
      exact h0
    · cases hrt : mv_rt t with
      | true =>
        rw [mg_cell_ref h12 hrt] at h0
        unfold mv_cell
        rw [if_neg h12, if_pos hrt]
        have h0 : H[G.2.1 t j]? = some (arrV (cA (mv_ac t)) (mv_len t) (fun i => va_rf (G.2.2.1 t j i))) := h0
        show H[G.2.1 t j]? = some (arrV (cA (mv_ac t)) (mv_len t) (fun i => va_rf (some (G.2.1 (mv_et t) (mv_ei mg_M0 t j i)))))
        rw [h0]
        congr 1
        exact arrV_ext (fun i hi => by rw [r3 t j i ht hj hrt hi])
      | false =>
        rw [mg_cell_int h12 hrt] at h0
        unfold mv_cell
        rw [if_neg h12, if_neg (by rw [hrt]; decide)]
        have e : (fun i => Int32.ofInt (G.2.2.2 t j i)) = fun i => Int32.ofInt (mg_M0.1 t j i) := funext (fun i => by rw [r4 t j i ht hj]; rfl)
        rw [e] at h0
        exact h0
end RDY
theorem sy_fin_at : ∃ X : sy_S, sy_run 100000 10 0 (sy_L 10) [] ([(10, 0)], [], []) 0 0 = some X ∧ sy_ck X = true := by
  have h := sy_fin_ok
  unfold sy_fin at h
  split at h
  · cases h
  · rename_i X hX
    exact ⟨X, hX, h⟩
/-- where everything begins: nothing in it, the rules 3, 12, 2 -/
def qg_F0 : qg_F := ((([], [], 3, 12, 2), none, none), [], [])
theorem mg_M0_ok : mv_Mok mg_M0 := by
  refine ⟨fun t j k => ?_, fun i => ?_⟩
  · show -2147483648 ≤ mg_z t k ∧ mg_z t k ≤ 2147483647
    unfold mg_z
    repeat' split
    all_goals decide
  · show cond (Nat.ble 5 i) 0 (i + 1) < 6
    cases h : Nat.ble 5 i with
    | true => exact (by decide : 0 < 6)
    | false =>
      have : ¬ 5 ≤ i := fun z => by rw [Nat.ble_eq_true_of_le z] at h; cases h
      show i + 1 < 6
      omega
theorem qg_F0_w : qg_wF qg_F0 := by
  refine ⟨⟨⟨⟨by decide, by decide, (fun a h => by cases h), (fun a h => by cases h), by decide, by decide, by decide, by decide, by decide⟩, fun k C h => ?_⟩, (fun q h => by cases h), fun k C h => ?_⟩, (fun q h => by cases h), by decide, by decide, (fun q h => by cases h)⟩
  all_goals
    unfold qg_sn at h
    split at h <;> cases h
theorem mg_M0_C : qr_C mg_M0 0 ([], [], 3, 12, 2) := ⟨rfl, rfl, (fun i a h => by simp at h), (fun i a h => by simp at h), rfl, rfl, rfl⟩
theorem mg_M0_X : qr_X mg_M0 qg_F0 := by
  refine ⟨⟨⟨mg_M0_C, fun k hk => ?_⟩, ⟨rfl, by decide, fun i hi => ?_, fun i j hi hj h => ?_, fun i S h => by simp [qg_F0] at h⟩, rfl, fun k s h => by simp [qg_F0] at h⟩, Or.inl rfl⟩
  · have : qg_sn qg_F0.1 k = none := by unfold qg_sn; split <;> rfl
    rw [this]; rfl
  · rcases (show i = 0 ∨ i = 1 ∨ i = 2 ∨ i = 3 ∨ i = 4 by omega) with rfl | rfl | rfl | rfl | rfl <;> decide
  · rcases (show i = 0 ∨ i = 1 ∨ i = 2 ∨ i = 3 ∨ i = 4 by omega) with rfl | rfl | rfl | rfl | rfl <;>
      rcases (show j = 0 ∨ j = 1 ∨ j = 2 ∨ j = 3 ∨ j = 4 by omega) with rfl | rfl | rfl | rfl | rfl <;> first | rfl | exact absurd h (by decide)
