/-! The instructions that read and write the world, and the calls. -/
def mv_CI (C : Nat) (R : String) (T : u_T) (N : Nat) (ty : Nat → FieldType) : Prop :=
  C < 12 ∧ vwCl[C]? = some (R, T, N) ∧ (∀ w ∈ u_ws R T N, w ∈ mv_tb) ∧ (∀ k, k < N → parseFieldDescriptor (T k).2.2.1 = some (ty k)) ∧ (∀ a, a < N → ∀ b, b < N → a ≠ b → (T a).2.1 ≠ (T b).2.1) ∧ (mv_fd C).length = N
/-- the arrays of whole numbers, and their lengths -/
def mv_itab : List (Nat × Int) := [(14, 3), (15, 8), (20, 360), (22, 200), (23, 3), (24, 407), (28, 360), (29, 1200), (30, 6), (31, 6), (32, 6), (26, 2035), (25, 407), (27, 140), (19, 140)]
def mv_lk : List (Nat × Int) → Nat → (Int → Prop) → Prop
  | [], _, _ => False
  | (a, n) :: l, t, k => cond (Nat.beq t a) (k n) (mv_lk l t k)
theorem mv_cond {b : Bool} {p : Prop} (h : cond b p False) : b = true ∧ p := by
  cases b
  · exact h.elim
  · exact ⟨rfl, h⟩
theorem mv_cond2 {b : Bool} {p q : Prop} (h : cond b p q) : (b = true ∧ p) ∨ q := by
  cases b
  · exact Or.inr h
  · exact Or.inl ⟨rfl, h⟩
theorem mv_lk_at : ∀ {l : List (Nat × Int)} {t : Nat} {k : Int → Prop}, mv_lk l t k → ∃ n, (t, n) ∈ l ∧ k n
  | [], _, _, h => h.elim
  | (a, n) :: l, t, k, h => by
    rcases mv_cond2 h with ⟨hb, hk⟩ | hk
    · have hb := Nat.eq_of_beq_eq_true hb
      rw [hb]
      exact ⟨n, List.mem_cons_self, hk⟩
    · obtain ⟨n', h1, h2⟩ := mv_lk_at hk
      exact ⟨n', List.mem_cons_of_mem _ h1, h2⟩
theorem mv_itab_ok : ∀ x ∈ mv_itab, ¬ x.1 < 12 ∧ x.1 < 33 ∧ mv_rt x.1 = false ∧ mv_ac x.1 = 0 ∧ (mv_len x.1 : Int) = x.2 := by decide +kernel
theorem mv_lkI {t : Nat} {k : Int → Prop} (h : mv_lk mv_itab t k) : ¬ t < 12 ∧ t < 33 ∧ mv_rt t = false ∧ mv_ac t = 0 ∧ k (mv_len t : Int) := by
  obtain ⟨n, h1, h2⟩ := mv_lk_at h
  obtain ⟨a, b, c, d, e⟩ := mv_itab_ok _ h1
  exact ⟨a, b, c, d, by rw [e]; exact h2⟩
def mo_getr (C t2 : Nat) (g : Nat → Nat) (nx : Nat) : mv_O := fun K _ L st M => match st with
  | .inr (t, j) :: st' => cond (Nat.beq t C) (K nx L (.inr (t2, g j) :: st') M) False
  | _ => False
def mo_geti (C k nx : Nat) : mv_O := fun K _ L st M => match st with
  | .inr (t, j) :: st' => cond (Nat.beq t C) (K nx L (.inl (M.1 C j k) :: st') M) False
  | _ => False
def mo_puti (C k nx : Nat) : mv_O := fun K _ L st M => match st with
  | .inl x :: .inr (t, j) :: st' => cond (Nat.beq t C) (K nx L st' (mv_up M.1 C j k x, M.2)) False
  | _ => False
def mo_putz (C k nx : Nat) : mv_O := fun K _ L st M => match st with
  | .inl x :: .inr (t, j) :: st' => cond (Nat.beq t C) ((x = 0 ∨ x = 1) ∧ K nx L st' (mv_up M.1 C j k x, M.2)) False
  | _ => False
def mo_iald (nx : Nat) : mv_O := fun K _ L st M => match st with
  | .inl i :: .inr (t, j) :: st' => mv_lk mv_itab t (fun n => (0 ≤ i ∧ i < n) ∧ K nx L (.inl (M.1 t j i.toNat) :: st') M)
  | _ => False
def mo_iast (nx : Nat) : mv_O := fun K _ L st M => match st with
  | .inl x :: .inl i :: .inr (t, j) :: st' => mv_lk mv_itab t (fun n => (0 ≤ i ∧ i < n) ∧ K nx L st' (mv_up M.1 t j i.toNat x, M.2))
  | _ => False
def mo_zald (nx : Nat) : mv_O := fun K _ L st M => match st with
  | .inl i :: .inr (t, j) :: st' => cond (Nat.beq t 17) ((0 ≤ i ∧ i < 2) ∧ K nx L (.inl (M.1 17 j i.toNat) :: st') M) False
  | _ => False
def mo_zast (nx : Nat) : mv_O := fun K _ L st M => match st with
  | .inl x :: .inl i :: .inr (t, j) :: st' => cond (Nat.beq t 17) ((0 ≤ i ∧ i < 2) ∧ (x = 0 ∨ x = 1) ∧ K nx L st' (mv_up M.1 17 j i.toNat x, M.2)) False
  | _ => False
def mo_alen (nx : Nat) : mv_O := fun K _ L st M => match st with
  | .inr (t, _) :: st' => mv_lk mv_itab t (fun n => K nx L (.inl n :: st') M)
  | _ => False
def mo_aald (nx : Nat) : mv_O := fun K _ L st M => match st with
  | .inl i :: .inr (t, j) :: st' =>
    cond (Nat.beq t 12) ((0 ≤ i ∧ i < 6) ∧ K nx L (.inr (0, 6 * j + i.toNat) :: st') M)
      (cond (Nat.beq t 13) ((0 ≤ i ∧ i < 8) ∧ K nx L (.inr (5, 8 * j + i.toNat) :: st') M)
        (cond (Nat.beq t 21) ((0 ≤ i ∧ i < 6) ∧ K nx L (.inr (2, 6 * j + i.toNat) :: st') M)
          (cond (Nat.beq t 16) ((0 ≤ i ∧ i < 2) ∧ K nx L (.inr (1, 3 * j + 1 + i.toNat) :: st') M)
            (cond (Nat.beq t 18) ((0 ≤ i ∧ i < 5) ∧ K nx L (.inr (7, M.2 i.toNat) :: st') M) False))))
  | _ => False
def mo_aast (nx : Nat) : mv_O := fun K _ L st M => match st with
  | .inr (t2, v) :: .inl i :: .inr (t, _) :: st' => cond (Nat.beq t2 7) (cond (Nat.beq t 18) ((0 ≤ i ∧ i < 5) ∧ K nx L st' (M.1, mv_us M.2 i.toNat v)) False) False
  | _ => False
def mv_cp (f : Nat → Nat → Nat → Int) (t1 j1 sp t2 j2 dp n : Nat) : Nat → Nat → Nat → Int := fun a b c => if a = t2 ∧ b = j2 ∧ dp ≤ c ∧ c < dp + n then f t1 j1 (sp + (c - dp)) else f a b c
def mo_copy (nx : Nat) : mv_O := fun K _ L st M => match st with
  | .inl n :: .inl dp :: .inr (t2, j2) :: .inl sp :: [.inr (t1, j1)] => mv_lk mv_itab t1 (fun n1 => mv_lk mv_itab t2 (fun n2 =>
      (0 ≤ sp ∧ 0 ≤ dp ∧ 0 ≤ n ∧ sp + n ≤ n1 ∧ dp + n ≤ n2) ∧ K nx L [] (mv_cp M.1 t1 j1 sp.toNat t2 j2 dp.toNat n.toNat, M.2)))
  | _ => False
theorem mv_vin {i : Int} {n : Nat} (hr : -2147483648 ≤ i ∧ i ≤ 2147483647) (h : 0 ≤ i ∧ i < (n : Int)) : vp_in (Int32.ofInt i) n := vp_in_iff.mpr (by rw [mv_toInt hr]; exact h)
theorem mv_clamp {i : Int} (hr : -2147483648 ≤ i ∧ i ≤ 2147483647) : (Int32.ofInt i).toNatClampNeg = i.toNat := by
  show (Int32.ofInt i).toInt.toNat = i.toNat
  rw [mv_toInt hr]
theorem mv_Mok.up {M : mv_M} (h : mv_Mok M) {t j k : Nat} {x : Int} (hx : -2147483648 ≤ x ∧ x ≤ 2147483647) : mv_Mok (mv_up M.1 t j k x, M.2) := by
  refine ⟨fun a b c => ?_, h.2⟩
  show -2147483648 ≤ (if a = t ∧ b = j ∧ c = k then x else M.1 a b c) ∧ (if a = t ∧ b = j ∧ c = k then x else M.1 a b c) ≤ 2147483647
  by_cases q : a = t ∧ b = j ∧ c = k
  · rw [if_pos q]; exact hx
  · rw [if_neg q]; exact h.1 a b c
theorem mv_Mok.cp {M : mv_M} (h : mv_Mok M) {t1 j1 sp t2 j2 dp n : Nat} : mv_Mok (mv_cp M.1 t1 j1 sp t2 j2 dp n, M.2) := by
  refine ⟨fun a b c => ?_, h.2⟩
  show -2147483648 ≤ (if a = t2 ∧ b = j2 ∧ dp ≤ c ∧ c < dp + n then M.1 t1 j1 (sp + (c - dp)) else M.1 a b c) ∧ (if a = t2 ∧ b = j2 ∧ dp ≤ c ∧ c < dp + n then M.1 t1 j1 (sp + (c - dp)) else M.1 a b c) ≤ 2147483647
  by_cases q : a = t2 ∧ b = j2 ∧ dp ≤ c ∧ c < dp + n
  · rw [if_pos q]; exact h.1 _ _ _
  · rw [if_neg q]; exact h.1 a b c
section MVH
variable {cc : ByteArray} {maxL : Nat} {ret : Option FieldType} {own : String} {lvl pc : Nat}
theorem ms_getr {idx C k N t2 a b : Nat} {R : String} {T : u_T} {ty : Nat → FieldType} {g : Nat → Nat} (hd : decode cc pc = .ok (.getfield idx, 3)) (hI : mv_CI C R T N ty) (hk : k < N) (hf : (mv_fd C)[k]? = some (some (t2, a, b))) (hg : ∀ j, g j = a * j + b)
    (hw : Cond.fieldLink own idx (T k).1 (T k).2.1 (T k).2.2.1 ∈ mv_tb) (hc : ∀ j, j < mv_cnt C → a * j + b < mv_cnt t2) (ht2 : t2 < 33) : mv_Snd cc maxL ret own lvl pc (mo_getr C t2 g (pc + 3)) := by
  intro p l e s m args below meth c ad D cA K Q L st M H locs ls X hK hN h S kk
  match st, h, S with
  | .inr (t, j) :: st', hh, SS =>
    dsimp only [mo_getr] at hh
    replace hh := mv_cond hh
    have hb := hh.1
    replace hh := hh.2
    have hb := Nat.eq_of_beq_eq_true hb
    subst hb
    obtain ⟨hj1, hj2⟩ := SS.2.2.2.2.2.1.hd
    obtain ⟨q0, hq, -⟩ := mv_ws_get SS.2.1 (mv_IX_mem hj1 hj2)
    rw [mv_cell_obj hI.1] at hq
    refine va_get X.1 X.2.1 X.2.2.2.2.1 hI.2.2.1 X.2.2.2.1 hK SS.1 q0 hq hI.2.1 k hk (X.2.2.2.2.1 _ hw) (fun _ z => z) (mv_fs_at hf) hd ?_
    rw [show mv_fv ad M t j k (some (t2, a, b)) = mv_tr ad (.inr (t2, g j)) from by rw [hg]; rfl]
    exact kk _ _ (.inr (t2, g j) :: st') _ _ _ _ hh ⟨SS.1, SS.2.1, SS.2.2.1, SS.2.2.2.1, SS.2.2.2.2.1, SS.2.2.2.2.2.1.tl.cons (show _ ∧ _ from ⟨ht2, by rw [hg]; exact hc j hj2⟩), SS.2.2.2.2.2.2⟩
theorem ms_geti {idx C k N : Nat} {R : String} {T : u_T} {ty : Nat → FieldType} (hd : decode cc pc = .ok (.getfield idx, 3)) (hI : mv_CI C R T N ty) (hk : k < N) (hf : (mv_fd C)[k]? = some none)
    (hw : Cond.fieldLink own idx (T k).1 (T k).2.1 (T k).2.2.1 ∈ mv_tb) : mv_Snd cc maxL ret own lvl pc (mo_geti C k (pc + 3)) := by
  intro p l e s m args below meth c ad D cA K Q L st M H locs ls X hK hN h S kk
  match st, h, S with
  | .inr (t, j) :: st', hh, SS =>
    dsimp only [mo_geti] at hh
    replace hh := mv_cond hh
    have hb := hh.1
    replace hh := hh.2
    have hb := Nat.eq_of_beq_eq_true hb
    subst hb
    obtain ⟨hj1, hj2⟩ := SS.2.2.2.2.2.1.hd
    obtain ⟨q0, hq, -⟩ := mv_ws_get SS.2.1 (mv_IX_mem hj1 hj2)
    rw [mv_cell_obj hI.1] at hq
    refine va_get X.1 X.2.1 X.2.2.2.2.1 hI.2.2.1 X.2.2.2.1 hK SS.1 q0 hq hI.2.1 k hk (X.2.2.2.2.1 _ hw) (fun _ z => z) (mv_fs_at hf) hd ?_
    exact kk _ _ (.inl (M.1 t j k) :: st') _ _ _ _ hh ⟨SS.1, SS.2.1, SS.2.2.1, SS.2.2.2.1, SS.2.2.2.2.1, SS.2.2.2.2.2.1.tl.cons (SS.2.2.2.2.2.2.1 t j k), SS.2.2.2.2.2.2⟩
theorem ms_puti {idx C k N : Nat} {R : String} {T : u_T} {ty : Nat → FieldType} (hd : decode cc pc = .ok (.putfield idx, 3)) (hI : mv_CI C R T N ty) (hk : k < N) (hf : (mv_fd C)[k]? = some none)
    (hw : Cond.fieldLink own idx (T k).1 (T k).2.1 (T k).2.2.1 ∈ mv_tb) (hfin : (T k).2.2.2 = false) (hty : parseFieldDescriptor (T k).2.2.1 = some .int) : mv_Snd cc maxL ret own lvl pc (mo_puti C k (pc + 3)) := by
  intro p l e s m args below meth c ad D cA K Q L st M H locs ls X hK hN h S kk
  match st, h, S with
  | .inl x :: .inr (t, j) :: st', hh, SS =>
    dsimp only [mo_puti] at hh
    replace hh := mv_cond hh
    have hb := hh.1
    replace hh := hh.2
    have hb := Nat.eq_of_beq_eq_true hb
    subst hb
    obtain ⟨hj1, hj2⟩ := SS.2.2.2.2.2.1.tl.hd
    obtain ⟨q0, hq, hset⟩ := mv_ws_get SS.2.1 (mv_IX_mem hj1 hj2)
    have hset := hset (mv_up M.1 t j k x, M.2) (fun _ _ _ z => mv_cell_up z)
    rw [mv_cell_obj hI.1, ← mv_fs_put hf] at hset
    rw [mv_cell_obj hI.1] at hq
    refine va_put X.1 X.2.1 X.2.2.2.2.1 hI.2.2.1 ty hI.2.2.2.1 hI.2.2.2.2.1 X.2.2.2.1 hK SS.1 SS.2.1 SS.2.2.1 q0 hq hI.2.1 k hk (X.2.2.2.2.1 _ hw) (fun _ z => z) hfin hty (v := .int (Int32.ofInt x)) rfl rfl (by rw [mv_fs_len]; exact (List.getElem?_eq_some_iff.mp hf).1) hd (fun H1 locs1 hP1 hD1 hS1 => ?_)
    rw [hset] at hP1 hD1
    exact kk _ _ st' _ _ _ _ hh ⟨hP1, hD1, hS1, SS.2.2.2.1, SS.2.2.2.2.1, SS.2.2.2.2.2.1.tl.tl, SS.2.2.2.2.2.2.up SS.2.2.2.2.2.1.hd⟩
theorem ms_putz {idx C k N : Nat} {R : String} {T : u_T} {ty : Nat → FieldType} (hd : decode cc pc = .ok (.putfield idx, 3)) (hI : mv_CI C R T N ty) (hk : k < N) (hf : (mv_fd C)[k]? = some none)
    (hw : Cond.fieldLink own idx (T k).1 (T k).2.1 (T k).2.2.1 ∈ mv_tb) (hfin : (T k).2.2.2 = false) (hty : parseFieldDescriptor (T k).2.2.1 = some .boolean) : mv_Snd cc maxL ret own lvl pc (mo_putz C k (pc + 3)) := by
  intro p l e s m args below meth c ad D cA K Q L st M H locs ls X hK hN h S kk
  match st, h, S with
  | .inl x :: .inr (t, j) :: st', hh, SS =>
    dsimp only [mo_putz] at hh
    replace hh := mv_cond hh
    have hb := hh.1
    have hx := hh.2.1
    replace hh := hh.2.2
    have hb := Nat.eq_of_beq_eq_true hb
    subst hb
    obtain ⟨hj1, hj2⟩ := SS.2.2.2.2.2.1.tl.hd
    obtain ⟨q0, hq, hset⟩ := mv_ws_get SS.2.1 (mv_IX_mem hj1 hj2)
    have hset := hset (mv_up M.1 t j k x, M.2) (fun _ _ _ z => mv_cell_up z)
    rw [mv_cell_obj hI.1, ← mv_fs_put hf] at hset
    rw [mv_cell_obj hI.1] at hq
    refine va_put X.1 X.2.1 X.2.2.2.2.1 hI.2.2.1 ty hI.2.2.2.1 hI.2.2.2.2.1 X.2.2.2.1 hK SS.1 SS.2.1 SS.2.2.1 q0 hq hI.2.1 k hk (X.2.2.2.2.1 _ hw) (fun _ z => z) hfin hty (v := .int (Int32.ofInt x)) (by rcases hx with rfl | rfl <;> rfl) (by rcases hx with rfl | rfl <;> rfl) (by rw [mv_fs_len]; exact (List.getElem?_eq_some_iff.mp hf).1) hd (fun H1 locs1 hP1 hD1 hS1 => ?_)
    rw [hset] at hP1 hD1
    exact kk _ _ st' _ _ _ _ hh ⟨hP1, hD1, hS1, SS.2.2.2.1, SS.2.2.2.2.1, SS.2.2.2.2.2.1.tl.tl, SS.2.2.2.2.2.2.up SS.2.2.2.2.2.1.hd⟩
theorem mv_arr_up {M : mv_M} {t j i : Nat} {x : Int} : upd (fun q => Int32.ofInt (M.1 t j q)) i (Int32.ofInt x) = fun q => Int32.ofInt (mv_up M.1 t j i x t j q) := by
  funext q
  by_cases hq : q = i
  · subst hq; simp [upd, mv_up]
  · simp [upd, mv_up, hq]
theorem ms_iald (hd : decode cc pc = .ok (.iaload, 1)) : mv_Snd cc maxL ret own lvl pc (mo_iald (pc + 1)) := by
  intro p l e s m args below meth c ad D cA K Q L st M H locs ls X hK hN h S kk
  match st, h, S with
  | .inl i :: .inr (t, j) :: st', hh, SS =>
    dsimp only [mo_iald] at hh
    obtain ⟨h12, h33, hrt, hac, hin, hh⟩ := mv_lkI hh
    obtain ⟨hj1, hj2⟩ := SS.2.2.2.2.2.1.tl.hd
    obtain ⟨q0, hq, -⟩ := mv_ws_get SS.2.1 (mv_IX_mem hj1 hj2)
    rw [mv_cell_int h12 hrt, hac] at hq
    refine va_iald X.1 X.2.1 hK SS.1 q0 0 hq (mv_tys_at cA (by omega)) (mv_vin SS.2.2.2.2.2.1.hd hin) hd ?_
    rw [mv_clamp SS.2.2.2.2.2.1.hd]
    exact kk _ _ (.inl (M.1 t j i.toNat) :: st') _ _ _ _ hh ⟨SS.1, SS.2.1, SS.2.2.1, SS.2.2.2.1, SS.2.2.2.2.1, SS.2.2.2.2.2.1.tl.tl.cons (SS.2.2.2.2.2.2.1 t j _), SS.2.2.2.2.2.2⟩
theorem ms_iast (hd : decode cc pc = .ok (.iastore, 1)) : mv_Snd cc maxL ret own lvl pc (mo_iast (pc + 1)) := by
  intro p l e s m args below meth c ad D cA K Q L st M H locs ls X hK hN h S kk
  match st, h, S with
  | .inl x :: .inl i :: .inr (t, j) :: st', hh, SS =>
    dsimp only [mo_iast] at hh
    obtain ⟨h12, h33, hrt, hac, hin, hh⟩ := mv_lkI hh
    obtain ⟨hj1, hj2⟩ := SS.2.2.2.2.2.1.tl.tl.hd
    obtain ⟨q0, hq, hset⟩ := mv_ws_get SS.2.1 (mv_IX_mem hj1 hj2)
    have hset := hset (mv_up M.1 t j i.toNat x, M.2) (fun _ _ _ z => mv_cell_up z)
    rw [mv_cell_int h12 hrt, hac, ← mv_arr_up] at hset
    rw [mv_cell_int h12 hrt, hac] at hq
    refine va_iast X.1 X.2.1 hK SS.1 SS.2.1 SS.2.2.1 q0 0 hq (mv_tys_at cA (by omega)) (mv_vin SS.2.2.2.2.2.1.tl.hd hin) hd (fun H1 locs1 hP1 hD1 hS1 => ?_)
    rw [mv_clamp SS.2.2.2.2.2.1.tl.hd, hset] at hP1 hD1
    exact kk _ _ st' _ _ _ _ hh ⟨hP1, hD1, hS1, SS.2.2.2.1, SS.2.2.2.2.1, SS.2.2.2.2.2.1.tl.tl.tl, SS.2.2.2.2.2.2.up SS.2.2.2.2.2.1.hd⟩
theorem ms_zald (hd : decode cc pc = .ok (.baload, 1)) : mv_Snd cc maxL ret own lvl pc (mo_zald (pc + 1)) := by
  intro p l e s m args below meth c ad D cA K Q L st M H locs ls X hK hN h S kk
  match st, h, S with
  | .inl i :: .inr (t, j) :: st', hh, SS =>
    dsimp only [mo_zald] at hh
    replace hh := mv_cond hh
    have hb := hh.1
    have hin := hh.2.1
    replace hh := hh.2.2
    have hb := Nat.eq_of_beq_eq_true hb
    subst hb
    obtain ⟨hj1, hj2⟩ := SS.2.2.2.2.2.1.tl.hd
    obtain ⟨q0, hq, -⟩ := mv_ws_get SS.2.1 (mv_IX_mem hj1 hj2)
    rw [mv_cell_int (by decide) (by decide)] at hq
    refine va_zald X.1 X.2.1 hK SS.1 q0 1 hq (mv_tys_at cA (by omega)) (mv_vin SS.2.2.2.2.2.1.hd hin) hd ?_
    rw [mv_clamp SS.2.2.2.2.2.1.hd]
    exact kk _ _ (.inl (M.1 17 j i.toNat) :: st') _ _ _ _ hh ⟨SS.1, SS.2.1, SS.2.2.1, SS.2.2.2.1, SS.2.2.2.2.1, SS.2.2.2.2.2.1.tl.tl.cons (SS.2.2.2.2.2.2.1 17 j _), SS.2.2.2.2.2.2⟩
theorem ms_zast (hd : decode cc pc = .ok (.bastore, 1)) : mv_Snd cc maxL ret own lvl pc (mo_zast (pc + 1)) := by
  intro p l e s m args below meth c ad D cA K Q L st M H locs ls X hK hN h S kk
  match st, h, S with
  | .inl x :: .inl i :: .inr (t, j) :: st', hh, SS =>
    dsimp only [mo_zast] at hh
    replace hh := mv_cond hh
    have hb := hh.1
    have hin := hh.2.1
    have hx := hh.2.2.1
    replace hh := hh.2.2.2
    have hb := Nat.eq_of_beq_eq_true hb
    subst hb
    obtain ⟨hj1, hj2⟩ := SS.2.2.2.2.2.1.tl.tl.hd
    obtain ⟨q0, hq, hset⟩ := mv_ws_get SS.2.1 (mv_IX_mem hj1 hj2)
    have hset := hset (mv_up M.1 17 j i.toNat x, M.2) (fun _ _ _ z => mv_cell_up z)
    rw [mv_cell_int (by decide) (by decide), ← mv_arr_up] at hset
    rw [mv_cell_int (by decide) (by decide)] at hq
    refine va_zast X.1 X.2.1 hK SS.1 SS.2.1 SS.2.2.1 q0 1 hq (mv_tys_at cA (by omega)) (mv_vin SS.2.2.2.2.2.1.tl.hd hin) hd (fun H1 locs1 hP1 hD1 hS1 => ?_)
    have hnar : vp_nar .boolean (Int32.ofInt x) = Int32.ofInt x := by rcases hx with rfl | rfl <;> rfl
    rw [hnar, mv_clamp SS.2.2.2.2.2.1.tl.hd, hset] at hP1 hD1
    exact kk _ _ st' _ _ _ _ hh ⟨hP1, hD1, hS1, SS.2.2.2.1, SS.2.2.2.2.1, SS.2.2.2.2.2.1.tl.tl.tl, SS.2.2.2.2.2.2.up SS.2.2.2.2.2.1.hd⟩
theorem ms_alen (hd : decode cc pc = .ok (.arraylength, 1)) : mv_Snd cc maxL ret own lvl pc (mo_alen (pc + 1)) := by
  intro p l e s m args below meth c ad D cA K Q L st M H locs ls X hK hN h S kk
  match st, h, S with
  | .inr (t, j) :: st', hh, SS =>
    dsimp only [mo_alen] at hh
    obtain ⟨h12, h33, hrt, hac, hh⟩ := mv_lkI hh
    obtain ⟨hj1, hj2⟩ := SS.2.2.2.2.2.1.hd
    obtain ⟨q0, hq, -⟩ := mv_ws_get SS.2.1 (mv_IX_mem hj1 hj2)
    rw [mv_cell_int h12 hrt, hac] at hq
    have hle : ∀ t, t < 33 → mv_len t ≤ 2035 := by decide +kernel
    have hl := hle t h33
    refine va_alen X.1 X.2.1 hK SS.1 q0 0 hq (mv_tys_at cA (by omega)) (v := Int32.ofInt (mv_len t : Int)) rfl hd ?_
    exact kk _ _ (.inl (mv_len t : Int) :: st') _ _ _ _ hh ⟨SS.1, SS.2.1, SS.2.2.1, SS.2.2.2.1, SS.2.2.2.2.1, SS.2.2.2.2.2.1.tl.cons (show _ ∧ _ from ⟨by omega, by omega⟩), SS.2.2.2.2.2.2⟩
theorem mv_aald_at {p l e s m args below meth c} {ad : Nat → Nat → Nat} {D : va_G} {cA : Nat → ClassId} {R : Room} {Qm : State → Prop} {L : mv_L} {st : List mv_V} {M : mv_M} {H : Heap} {locs : List Loc} {ls : Array Slot} {i : Int} {t j : Nat}
    (hd : decode cc pc = .ok (.aaload, 1)) (X : mv_Cx cc maxL ret own p s m args meth c) (hK : va_K D vwCl (mv_tys cA) s) (S : mv_St ad D cA maxL s.heap M L (.inl i :: .inr (t, j) :: st) H locs ls) (h12 : ¬ t < 12) (hrt : mv_rt t = true) (hac : mv_ac t < 7) {C : String} (hat : mv_at (mv_ac t) = .object C) (hin : 0 ≤ i ∧ i < (mv_len t : Int))
    (kk : W p l e R s m args below meth c H locs 0 0 Qm (F0 m (pc + 1) ls (.ref (ad (mv_et t) (mv_ei M t j i.toNat)) :: st.map (mv_tr ad)))) : W p l e R s m args below meth c H locs 0 0 Qm (F0 m pc ls ((.inl i :: .inr (t, j) :: st : List mv_V).map (mv_tr ad))) := by
  obtain ⟨hj1, hj2⟩ := S.2.2.2.2.2.1.tl.hd
  obtain ⟨q0, hq, -⟩ := mv_ws_get S.2.1 (mv_IX_mem hj1 hj2)
  rw [mv_cell_ref h12 hrt] at hq
  refine va_aldq (C := C) X.1 X.2.1 hK S.1 q0 (mv_ac t) hq (by rw [mv_tys_at cA hac, hat]) (mv_vin S.2.2.2.2.2.1.hd hin) hd ?_
  rw [mv_clamp S.2.2.2.2.2.1.hd]
  exact kk
theorem ms_aald (hd : decode cc pc = .ok (.aaload, 1)) : mv_Snd cc maxL ret own lvl pc (mo_aald (pc + 1)) := by
  intro p l e s m args below meth c ad D cA K Q L st M H locs ls X hK hN h S kk
  match st, h, S with
  | .inl i :: .inr (t, j) :: st', hh, SS =>
    dsimp only [mo_aald] at hh
    obtain ⟨hj1, hj2⟩ := SS.2.2.2.2.2.1.tl.hd
    rcases mv_cond2 hh with h2 | g1
    · have hb := Nat.eq_of_beq_eq_true h2.1
      have hin := h2.2.1
      subst hb
      refine mv_aald_at hd X hK SS (by decide) (by decide) (by decide) rfl hin ?_
      exact kk _ _ (.inr (0, 6 * j + i.toNat) :: st') _ _ _ _ h2.2.2 ⟨SS.1, SS.2.1, SS.2.2.1, SS.2.2.2.1, SS.2.2.2.2.1, SS.2.2.2.2.2.1.tl.tl.cons (show _ ∧ _ from ⟨by decide, by have h2 : j < 20 := hj2; show _ < 120; omega⟩), SS.2.2.2.2.2.2⟩
    rcases mv_cond2 g1 with h2 | g2
    · have hb := Nat.eq_of_beq_eq_true h2.1
      have hin := h2.2.1
      subst hb
      refine mv_aald_at hd X hK SS (by decide) (by decide) (by decide) rfl hin ?_
      exact kk _ _ (.inr (5, 8 * j + i.toNat) :: st') _ _ _ _ h2.2.2 ⟨SS.1, SS.2.1, SS.2.2.1, SS.2.2.2.1, SS.2.2.2.2.1, SS.2.2.2.2.2.1.tl.tl.cons (show _ ∧ _ from ⟨by decide, by have h2 : j < 20 := hj2; show _ < 160; omega⟩), SS.2.2.2.2.2.2⟩
    rcases mv_cond2 g2 with h2 | g3
    · have hb := Nat.eq_of_beq_eq_true h2.1
      have hin := h2.2.1
      subst hb
      refine mv_aald_at hd X hK SS (by decide) (by decide) (by decide) rfl hin ?_
      exact kk _ _ (.inr (2, 6 * j + i.toNat) :: st') _ _ _ _ h2.2.2 ⟨SS.1, SS.2.1, SS.2.2.1, SS.2.2.2.1, SS.2.2.2.2.1, SS.2.2.2.2.2.1.tl.tl.cons (show _ ∧ _ from ⟨by decide, by have h2 : j < 3 := hj2; show _ < 18; omega⟩), SS.2.2.2.2.2.2⟩
    rcases mv_cond2 g3 with h2 | g4
    · have hb := Nat.eq_of_beq_eq_true h2.1
      have hin := h2.2.1
      subst hb
      refine mv_aald_at hd X hK SS (by decide) (by decide) (by decide) rfl hin ?_
      exact kk _ _ (.inr (1, 3 * j + 1 + i.toNat) :: st') _ _ _ _ h2.2.2 ⟨SS.1, SS.2.1, SS.2.2.1, SS.2.2.2.1, SS.2.2.2.2.1, SS.2.2.2.2.2.1.tl.tl.cons (show _ ∧ _ from ⟨by decide, by have h2 : j < 6 := hj2; show _ < 20; omega⟩), SS.2.2.2.2.2.2⟩
    replace hh := mv_cond g4
    have hb := hh.1
    have hin := hh.2.1
    replace hh := hh.2.2
    have hb := Nat.eq_of_beq_eq_true hb
    subst hb
    refine mv_aald_at hd X hK SS (by decide) (by decide) (by decide) rfl hin ?_
    exact kk _ _ (.inr (7, M.2 i.toNat) :: st') _ _ _ _ hh ⟨SS.1, SS.2.1, SS.2.2.1, SS.2.2.2.1, SS.2.2.2.2.1, SS.2.2.2.2.2.1.tl.tl.cons (show _ ∧ _ from ⟨by decide, SS.2.2.2.2.2.2.2 _⟩), SS.2.2.2.2.2.2⟩
theorem mv_cell_us {ad : Nat → Nat → Nat} {cA : Nat → ClassId} {M : mv_M} {i v t' j' : Nat} (h : ¬ t' = 18) : mv_cell ad cA (M.1, mv_us M.2 i v) t' j' = mv_cell ad cA M t' j' := by
  have e2 : mv_fs ad (M.1, mv_us M.2 i v) t' j' = mv_fs ad M t' j' := rfl
  have e3 : ∀ q, mv_ei (M.1, mv_us M.2 i v) t' j' q = mv_ei M t' j' q := by
    intro q
    have : Nat.beq t' 18 = false := by
      cases hb : Nat.beq t' 18 with
      | false => rfl
      | true => exact absurd (Nat.eq_of_beq_eq_true hb) h
    simp [mv_ei, this]
  unfold mv_cell
  simp only [e2, e3]
theorem ms_aast (hd : decode cc pc = .ok (.aastore, 1)) : mv_Snd cc maxL ret own lvl pc (mo_aast (pc + 1)) := by
  intro p l e s m args below meth c ad D cA K Q L st M H locs ls X hK hN h S kk
  match st, h, S with
  | .inr (t2, v) :: .inl i :: .inr (t, j) :: st', hh, SS =>
    dsimp only [mo_aast] at hh
    replace hh := mv_cond hh
    have hb2 := hh.1
    replace hh := hh.2
    replace hh := mv_cond hh
    have hb := hh.1
    have hin := hh.2.1
    replace hh := hh.2.2
    have hb := Nat.eq_of_beq_eq_true hb
    have hb2 := Nat.eq_of_beq_eq_true hb2
    subst hb
    subst hb2
    obtain ⟨hj1, hj2⟩ := SS.2.2.2.2.2.1.tl.tl.hd
    obtain ⟨hv1, hv2⟩ := SS.2.2.2.2.2.1.hd
    have hj0 : j = 0 := by have h2 : j < 1 := hj2; omega
    subst hj0
    obtain ⟨q0, hq, hset⟩ := mv_ws_get SS.2.1 (mv_IX_mem hj1 hj2)
    obtain ⟨qk, hqk, -⟩ := mv_ws_get SS.2.1 (mv_IX_mem hv1 hv2)
    have hIX : ∀ j', (18, j') ∈ mv_IX → j' = 0 := fun j' hj' => by
      have h2 : j' < 1 := (mv_mem_IX hj').2
      omega
    have hset := hset (M.1, mv_us M.2 i.toNat v) (fun t' j' hm z => by
      by_cases h18 : t' = 18
      · subst h18
        exact absurd ⟨rfl, hIX j' hm⟩ z
      · exact mv_cell_us h18)
    have hup : va_up (fun q => some (ad 7 (M.2 q))) i.toNat (some (ad 7 v)) = fun q => some (ad 7 (mv_us M.2 i.toNat v q)) := by
      funext q
      by_cases hq2 : q = i.toNat
      · simp [va_up, mv_us, hq2]
      · simp [va_up, mv_us, hq2]
    have e1 : mv_cell ad cA (M.1, mv_us M.2 i.toNat v) 18 0 = .inl (cA 5, 5, .inr (.inr (.inr (.inr (fun q => some (ad 7 (mv_us M.2 i.toNat v q))))))) := rfl
    have e0 : mv_cell ad cA M 18 0 = .inl (cA 5, 5, .inr (.inr (.inr (.inr (fun q => some (ad 7 (M.2 q))))))) := rfl
    rw [e1, ← hup] at hset
    rw [e0] at hq
    rw [mv_cell_obj (by decide)] at hqk
    refine va_astq (r := (RX7, TX7, 3)) X.1 X.2.1 hK SS.1 SS.2.1 SS.2.2.1 q0 5 qk 7 hq (mv_tys_at cA (by omega)) hqk rfl (mv_vin SS.2.2.2.2.2.1.tl.hd hin) hd (fun H1 locs1 hP1 hD1 hS1 => ?_)
    rw [mv_clamp SS.2.2.2.2.2.1.tl.hd, hset] at hP1 hD1
    refine kk _ _ st' _ _ _ _ hh ⟨hP1, hD1, hS1, SS.2.2.2.1, SS.2.2.2.2.1, SS.2.2.2.2.2.1.tl.tl.tl, SS.2.2.2.2.2.2.1, fun q => ?_⟩
    show (if q = i.toNat then v else M.2 q) < 6
    by_cases hq2 : q = i.toNat
    · rw [if_pos hq2]; exact hv2
    · rw [if_neg hq2]; exact SS.2.2.2.2.2.2.2 q
theorem mv_arr_cp {M : mv_M} {t1 j1 sp t2 j2 dp n : Nat} : va_cpy (fun q => Int32.ofInt (M.1 t1 j1 q)) (fun q => Int32.ofInt (M.1 t2 j2 q)) sp dp n = fun q => Int32.ofInt (mv_cp M.1 t1 j1 sp t2 j2 dp n t2 j2 q) := by
  funext q
  by_cases h : dp ≤ q ∧ q < dp + n
  · simp [va_cpy, mv_cp, h]
  · simp [va_cpy, mv_cp, h]
theorem mv_cell_cp {ad : Nat → Nat → Nat} {cA : Nat → ClassId} {M : mv_M} {t1 j1 sp t2 j2 dp n t' j' : Nat} (h : ¬ (t' = t2 ∧ j' = j2)) : mv_cell ad cA (mv_cp M.1 t1 j1 sp t2 j2 dp n, M.2) t' j' = mv_cell ad cA M t' j' := by
  have e : ∀ i, mv_cp M.1 t1 j1 sp t2 j2 dp n t' j' i = M.1 t' j' i := fun i => if_neg (fun q => h ⟨q.1, q.2.1⟩)
  have e2 : mv_fs ad (mv_cp M.1 t1 j1 sp t2 j2 dp n, M.2) t' j' = mv_fs ad M t' j' := by
    unfold mv_fs
    congr 1
    funext i o
    cases o with
    | none => simp [mv_fv, e]
    | some o => rfl
  unfold mv_cell
  rw [e2]
  by_cases h1 : t' < 12
  · rw [if_pos h1, if_pos h1]
  · rw [if_neg h1, if_neg h1]
    by_cases h2 : mv_rt t' = true
    · rw [if_pos h2, if_pos h2]; rfl
    · rw [if_neg h2, if_neg h2]
      simp only [e]
theorem ms_copy {idx : Nat} (hd : decode cc pc = .ok (.invokestatic idx, 3)) (hw : Cond.methodLink own idx arraycopyName ∈ mv_tb) (hnat : Cond.native arraycopyName ∈ mv_tb) (hstat : Cond.static arraycopyName ∈ mv_tb) (hini : Cond.initialized "java/lang/System" ∈ mv_tb) : mv_Snd cc maxL ret own lvl pc (mo_copy (pc + 3)) := by
  intro p l e s m args below meth c ad D cA K Q L st M H locs ls X hK hN h S kk
  match st, h, S with
  | .inl n :: .inl dp :: .inr (t2, j2) :: .inl sp :: [.inr (t1, j1)], hh, SS =>
    dsimp only [mo_copy] at hh
    obtain ⟨a12, a33, art, aac, hh⟩ := mv_lkI hh
    obtain ⟨b12, b33, brt, bac, hb, hh⟩ := mv_lkI hh
    have vn := SS.2.2.2.2.2.1.hd
    have vd := SS.2.2.2.2.2.1.tl.hd
    have v2 := SS.2.2.2.2.2.1.tl.tl.hd
    have vs := SS.2.2.2.2.2.1.tl.tl.tl.hd
    have v1 := SS.2.2.2.2.2.1.tl.tl.tl.tl.hd
    obtain ⟨q0, hq0, -⟩ := mv_ws_get SS.2.1 (mv_IX_mem v1.1 v1.2)
    obtain ⟨q1, hq1, hset⟩ := mv_ws_get SS.2.1 (mv_IX_mem v2.1 v2.2)
    have hset := hset (mv_cp M.1 t1 j1 sp.toNat t2 j2 dp.toNat n.toNat, M.2) (fun _ _ _ z => mv_cell_cp z)
    rw [mv_cell_int b12 brt, bac, ← mv_arr_cp] at hset
    rw [mv_cell_int b12 brt, bac] at hq1
    rw [mv_cell_int a12 art, aac] at hq0
    have pos : ∀ {z : Int}, (-2147483648 ≤ z ∧ z ≤ 2147483647) → 0 ≤ z → ¬ Int32.ofInt z < 0 := fun hz h0 q => by
      have := (mv_ilt hz mv_r0).mp q
      omega
    obtain ⟨b1, b2, b3, b4, b5⟩ := hb
    refine va_copyi X.1 X.2.1 (by rw [X.2.2.1]; exact SS.2.2.2.1.1.1.symm) X.2.2.2.1 (X.2.2.2.2.1 _ hw) (X.2.2.2.2.1 _ hnat) (X.2.2.2.2.1 _ hstat) (X.2.2.2.2.1 _ hini) hK SS.1 SS.2.1 SS.2.2.1 q0 q1 0 0 hq0 hq1 (mv_tys_at cA (by omega)) (mv_tys_at cA (by omega)) rfl (pos vs b1) (pos vd b2) (pos vn b3)
      (by rw [mv_clamp vs, mv_clamp vn]; omega) (by rw [mv_clamp vd, mv_clamp vn]; omega) (fun _ _ => rfl) (Nat.le_add_left 1 lvl) (by show 0 + (7 + 11) ≤ 40 + 30 * lvl; omega) hd (fun H1 locs1 hP1 hD1 hS1 => ?_)
    rw [mv_clamp vs, mv_clamp vd, mv_clamp vn, hset] at hP1 hD1
    exact kk _ _ [] _ _ _ _ hh ⟨hP1, hD1, hS1, SS.2.2.2.1, SS.2.2.2.2.1, (fun _ z => by cases z), SS.2.2.2.2.2.2.cp⟩
def mv_Ev (lvl : Nat) (y : MethodName) (cc : ByteArray) (maxL : Nat) (ret : Option FieldType) (av : List mv_V) (M : mv_M) (Q : mv_R) : Prop :=
  ∀ (l : Launch) (ad : Nat → Nat → Nat) (D : va_G) (cA : Nat → ClassId), mv_Sok av → mv_Mok M →
    Met l y (Cond.code y cc maxL ret :: mv_tb) (mv_rm lvl) (fun a U => a = (av.map (mv_tr ad)).toArray ∧ va_P D vwCl (mv_ws ad cA M) U.heap ∧ va_D (mv_A ad) (mv_ws ad cA M) ∧ va_K D vwCl (mv_tys cA) U ∧ mv_N U) (mv_Qc ad D cA Q) 0 0 (mv_A ad)
end MVH
-- calls
def mv_pop : Nat → List mv_V → List mv_V → (List mv_V → List mv_V → Prop) → Prop
  | 0, st, acc, k => k acc st
  | n + 1, v :: st, acc, k => mv_pop n st (v :: acc) k
  | _ + 1, [], _, _ => False
theorem mv_pop_at : ∀ {n : Nat} {st acc : List mv_V} {k : List mv_V → List mv_V → Prop}, mv_pop n st acc k → ∃ as st', as.length = n ∧ st = as.reverse ++ st' ∧ k (as ++ acc) st'
  | 0, st, acc, k, h => ⟨[], st, rfl, rfl, h⟩
  | n + 1, [], _, _, h => h.elim
  | n + 1, v :: st, acc, k, h => by
    obtain ⟨as, st', h1, h2, h3⟩ := mv_pop_at (n := n) h
    exact ⟨as ++ [v], st', by simp [h1], by simp [h2], by simpa using h3⟩
def mv_push (K : mv_K) (nx : Nat) (L : mv_L) (st : List mv_V) : mv_R := fun v M => match v with
  | some x => K nx L (x :: st) M
  | none => K nx L st M
/-- a call of an object's method: n arguments behind the receiver, which is of class C -/
def mo_callV (lv : Nat) (y : MethodName) (bytes : ByteArray) (mxL : Nat) (rt : Option FieldType) (C n nx : Nat) : mv_O := fun K _ L st M => mv_pop n st [] (fun as st1 => match st1 with
  | .inr (t, j) :: st' => cond (Nat.ble st'.length 8) (cond (Nat.beq t C) (mv_Ev lv y bytes mxL rt (.inr (t, j) :: as) M (mv_push K nx L st')) False) False
  | _ => False)
def mo_callS (lv : Nat) (y : MethodName) (bytes : ByteArray) (mxL : Nat) (rt : Option FieldType) (n nx : Nat) : mv_O := fun K _ L st M => mv_pop n st [] (fun as st' =>
  cond (Nat.ble st'.length 8) (mv_Ev lv y bytes mxL rt as M (mv_push K nx L st')) False)
theorem mv_catsum (ad : Nat → Nat → Nat) : ∀ st : List mv_V, ((st.map (mv_tr ad)).map fun v => v.category).sum = st.length
  | [] => rfl
  | v :: st => by simp only [List.map_cons, List.sum_cons, mv_tr_cat, mv_catsum ad st, List.length_cons]; omega
def mv_Yk (y : MethodName) (bytes : ByteArray) (mxL : Nat) (rt : Option FieldType) (n : Nat) : Prop :=
  Cond.code y bytes mxL rt ∈ mv_tb ∧ Cond.initialized y.cls ∈ mv_tb ∧ (y.cls ≠ "java/lang/invoke/MethodHandle" ∧ y.cls ≠ "java/lang/invoke/VarHandle") ∧ (parseMethodDescriptor y.desc).map (fun d => d.parameters.length) = some n ∧ mxL ≤ 11
theorem mv_tb_good : ∀ w ∈ mv_tb, ((w.onTables && w.keeps) = true ∨ ∃ ty, w = .arrayClass ty) := fun w hw => good_of_word (List.mem_filter.mp hw).2
theorem mv_goodIn {y : MethodName} {bytes : ByteArray} {mxL : Nat} {rt : Option FieldType} (h : Cond.code y bytes mxL rt ∈ mv_tb) : GoodIn mv_tb (Cond.code y bytes mxL rt :: mv_tb) := by
  intro w hw
  rcases List.mem_cons.mp hw with rfl | hw
  · exact ⟨h, mv_tb_good _ h⟩
  · exact ⟨hw, mv_tb_good _ hw⟩
section MVC
variable {p : Program} {l : Launch} {e : Env} {R : Room} {s : State} {m : MethodId} {args : Array Value} {below : List Frame} {meth : Method} {c : Code} {H : Heap} {locs : List Loc} {Qm : State → Prop}
theorem mv_callW {ad : Nat → Nat → Nat} {D : va_G} {cA : Nat → ClassId} {Q : mv_R} {a : Array Value} {pc : Nat} {ls : Array Slot} {st0 rest : List Value} {H0 : Heap}
    (hr : va_Run p l e R s m args below meth c H locs 0 0 0 0 (F0 m pc ls st0) rest (mv_Qc ad D cA Q a) (mv_A ad)) (hS : va_S (mv_A ad) H0 H locs)
    (kk : ∀ (v : Option mv_V) (M' : mv_M) (H' : Heap) (locs' : List Loc), Q v M' → (∀ w, v = some w → mv_vok w) → mv_Mok M' → va_P D vwCl (mv_ws ad cA M') H' → va_S (mv_A ad) H0 H' locs' → W p l e R s m args below meth c H' locs' 0 0 Qm (F0 m (pc + 3) ls ((v.map (mv_tr ad)).toList ++ rest))) :
    W p l e R s m args below meth c H locs 0 0 Qm (F0 m pc ls st0) := by
  intro T hT X
  obtain ⟨v, st₀, t, T', L, h0, X', hL, e1, e2, ⟨⟨v', M', hv, hq, hvo, hMo, hP⟩, hz, hk⟩, st⟩ := hr T hT X
  cases hv
  rw [h0] at hz hk
  obtain ⟨t2, a1, b1⟩ := kk v' M' T'.heap (locs ++ L) hq hvo hMo (by rw [e1]; exact hP)
    ⟨Nat.le_trans hS.1 (by rw [e1]; exact hz), fun q h1 h2 => by rw [e1, hk q (Nat.lt_of_lt_of_le h1 hS.1) h2]; exact hS.2.1 q h1 h2, fun q hq => by
      rcases List.mem_append.mp hq with h | h
      · exact hS.2.2 q h
      · exact hL q h⟩ T' rfl X'
  exact ⟨t2, st t2 a1, b1⟩
end MVC
theorem mv_blind {ad : Nat → Nat → Nat} {D : va_G} {cA : Nat → ClassId} {M : mv_M} {av : List mv_V} : FrameBlind (fun a U => a = (av.map (mv_tr ad)).toArray ∧ va_P D vwCl (mv_ws ad cA M) U.heap ∧ va_D (mv_A ad) (mv_ws ad cA M) ∧ va_K D vwCl (mv_tys cA) U ∧ mv_N U) :=
  fun _ U g mk q => ⟨q.1, q.2.1, q.2.2.1, va_K.moved (u := U) (U := U.calling g mk _) (Vm.Alike.refl U.vm) q.2.2.2.1, mv_N.same (s := U) rfl q.2.2.2.2⟩
section MVD
variable {cc : ByteArray} {maxL : Nat} {ret : Option FieldType} {own : String} {lvl pc : Nat}
theorem mv_sok_app {as st : List mv_V} (h : mv_Sok (as.reverse ++ st)) : mv_Sok as ∧ mv_Sok st :=
  ⟨fun v hv => h v (List.mem_append_left _ (List.mem_reverse.mpr hv)), fun v hv => h v (List.mem_append_right _ hv)⟩
theorem mv_goes {p : Program} {l : Launch} {e : Env} {s : State} {m : MethodId} {args : Array Value} {below : List Frame} {meth : Method} {c : Code} {ad : Nat → Nat → Nat} {D : va_G} {cA : Nat → ClassId} {K : mv_K} {Qm : State → Prop} {L : mv_L} {st st' : List mv_V} {M : mv_M} {H : Heap} {locs : List Loc} {ls : Array Slot} {a : Array Value} {nx : Nat} {H0 : Heap}
    (hr : va_Run p l e (mv_rm lvl) s m args below meth c H locs 0 0 0 0 (F0 m pc ls (st.map (mv_tr ad))) (st'.map (mv_tr ad)) (mv_Qc ad D cA (mv_push K nx L st') a) (mv_A ad)) (hnx : nx = pc + 3) (S : mv_St ad D cA maxL H0 M L st H locs ls) (hst : mv_Sok st')
    (kk : ∀ (pc' : Nat) (L' : mv_L) (st' : List mv_V) (M' : mv_M) (H' : Heap) (locs' : List Loc) (ls' : Array Slot), K pc' L' st' M' → mv_St ad D cA maxL H0 M' L' st' H' locs' ls' → W p l e (mv_rm lvl) s m args below meth c H' locs' 0 0 Qm (F0 m pc' ls' (st'.map (mv_tr ad)))) :
    W p l e (mv_rm lvl) s m args below meth c H locs 0 0 Qm (F0 m pc ls (st.map (mv_tr ad))) := by
  subst hnx
  refine mv_callW hr S.2.2.1 (fun v M' H' locs' hQ hv hM hP hS => ?_)
  cases v with
  | none => exact kk _ _ _ _ _ _ _ hQ ⟨hP, mv_D_any S.2.1, hS, S.2.2.2.1, S.2.2.2.2.1, hst, hM⟩
  | some x => exact kk _ _ (x :: st') _ _ _ _ hQ ⟨hP, mv_D_any S.2.1, hS, S.2.2.2.1, S.2.2.2.2.1, hst.cons (hv x rfl), hM⟩
theorem ms_callV {idx lv n C : Nat} {y : MethodName} {bytes : ByteArray} {mxL : Nat} {rt : Option FieldType} {T : u_T} {N : Nat} {ty : Nat → FieldType} (hd : decode cc pc = .ok (.invokevirtual idx, 3)) (hl : Cond.methodLink own idx y ∈ mv_tb) (hin : Cond.instanceMethod y ∈ mv_tb) (hse : Cond.selects y.cls y y ∈ mv_tb) (hY : mv_Yk y bytes mxL rt n) (hI : mv_CI C y.cls T N ty) (hlv : lv < lvl) :
    mv_Snd cc maxL ret own lvl pc (mo_callV lv y bytes mxL rt C n (pc + 3)) := by
  intro p l e s m args below meth c ad D cA K Q L st M H locs ls X hK hN h S kk
  obtain ⟨as, st1, hn, hst, h⟩ := mv_pop_at h
  rw [List.append_nil] at h
  match st1, hst, h with
  | .inr (t, j) :: st', hst, hh =>
    have h1 := mv_cond hh
    have hlen := Nat.le_of_ble_eq_true h1.1
    have h2 := mv_cond h1.2
    have ht := Nat.eq_of_beq_eq_true h2.1
    have h3 := h2.2
    subst ht
    have hso := S.2.2.2.2.2.1
    rw [hst] at hso
    obtain ⟨ha, hb⟩ := mv_sok_app hso
    obtain ⟨q0, hq, -⟩ := mv_ws_get S.2.1 (mv_IX_mem hb.hd.1 hb.hd.2)
    rw [mv_cell_obj hI.1] at hq
    have hM := h3 l ad D cA (ha.cons hb.hd) S.2.2.2.2.2.2
    refine mv_goes (va_runV (Ts := mv_tb) (b := ad t j) (As := as.map (mv_tr ad)) (rest := st'.map (mv_tr ad)) (C := y.cls) (bytes := bytes) (maxL := mxL) (ret := rt) (n := n) (index := idx) ⟨X.1, X.2.1, X.2.2.1, X.2.2.2.1, X.2.2.2.2.1⟩ hM
      ⟨⟨rfl, rfl, by show lv + 1 + 1 ≤ lvl + 1; omega, by show 8 + (mxL + 11) + (40 + 30 * lv) ≤ 40 + 30 * lvl; have := hY.2.2.2.2; omega, pay_in X.2.2.2.2.1 (mv_goodIn hY.1), List.mem_cons_self, X.2.2.2.2.1 _ hY.1, X.2.2.2.2.1 _ hY.2.1, hY.2.2.1, fun sig hs => ?_, X.2.2.2.2.1 _ hl⟩, X.2.2.2.2.1 _ hin, X.2.2.2.2.1 _ hse⟩
      ⟨mv_blind, va_recv hK S.1 hI.2.1 hq, fun U hU hW => ⟨rfl, by rw [hU]; exact S.1, S.2.1, va_K.moved hW.alike hK, mv_N.warm hW hN⟩⟩ rfl (by simp [hn]) S.2.2.2.1.1.1 (by rw [hst]; simp [mv_tr]) (by show 2 * 0 + _ ≤ 8; rw [mv_catsum]; omega) hd ⟨Nat.zero_le _, Nat.zero_le _⟩) rfl S hb.tl kk
    have h2 := hY.2.2.2.1
    rw [hs] at h2
    exact (Option.some.inj h2).symm
theorem ms_callS {idx lv n : Nat} {y : MethodName} {bytes : ByteArray} {mxL : Nat} {rt : Option FieldType} (hd : decode cc pc = .ok (.invokestatic idx, 3)) (hl : Cond.methodLink own idx y ∈ mv_tb) (hstc : Cond.static y ∈ mv_tb) (hY : mv_Yk y bytes mxL rt n) (hlv : lv < lvl) :
    mv_Snd cc maxL ret own lvl pc (mo_callS lv y bytes mxL rt n (pc + 3)) := by
  intro p l e s m args below meth c ad D cA K Q L st M H locs ls X hK hN h S kk
  obtain ⟨as, st', hn, hst, h⟩ := mv_pop_at h
  rw [List.append_nil] at h
  replace h := mv_cond h
  have hlen := Nat.le_of_ble_eq_true h.1
  replace h := h.2
  have hso := S.2.2.2.2.2.1
  rw [hst] at hso
  obtain ⟨ha, hb⟩ := mv_sok_app hso
  have hM := h l ad D cA ha S.2.2.2.2.2.2
  refine mv_goes (va_runS (Ts := mv_tb) (As := as.map (mv_tr ad)) (rest := st'.map (mv_tr ad)) (bytes := bytes) (maxL := mxL) (ret := rt) (n := n) (index := idx) ⟨X.1, X.2.1, X.2.2.1, X.2.2.2.1, X.2.2.2.2.1⟩ hM
    ⟨⟨rfl, rfl, by show lv + 1 + 1 ≤ lvl + 1; omega, by show 8 + (mxL + 11) + (40 + 30 * lv) ≤ 40 + 30 * lvl; have := hY.2.2.2.2; omega, pay_in X.2.2.2.2.1 (mv_goodIn hY.1), List.mem_cons_self, X.2.2.2.2.1 _ hY.1, X.2.2.2.2.1 _ hY.2.1, hY.2.2.1, fun sig hs => ?_, X.2.2.2.2.1 _ hl⟩, X.2.2.2.2.1 _ hstc⟩
    ⟨mv_blind, fun U hU hW => ⟨rfl, by rw [hU]; exact S.1, S.2.1, va_K.moved hW.alike hK, mv_N.warm hW hN⟩⟩ rfl (by simp [hn]) S.2.2.2.1.1.1 (by rw [hst]; simp) (by show 2 * 0 + _ ≤ 8; rw [mv_catsum]; omega) hd ⟨Nat.zero_le _, Nat.zero_le _⟩) rfl S hb kk
  have h2 := hY.2.2.2.1
  rw [hs] at h2
  exact (Option.some.inj h2).symm
theorem ms_callSN {idx lv n : Nat} {y : MethodName} {bytes : ByteArray} {mxL : Nat} {rt : Option FieldType} (hd : decode cc pc = .ok (.invokestatic idx, 3)) (hl : (own, idx, y) ∈ mv_nest) (hstc : Cond.static y ∈ mv_tb) (hY : mv_Yk y bytes mxL rt n) (hlv : lv < lvl) :
    mv_Snd cc maxL ret own lvl pc (mo_callS lv y bytes mxL rt n (pc + 3)) := by
  intro p l e s m args below meth c ad D cA K Q L st M H locs ls X hK hN h S kk
  obtain ⟨as, st', hn, hst, h⟩ := mv_pop_at h
  rw [List.append_nil] at h
  replace h := mv_cond h
  have hlen := Nat.le_of_ble_eq_true h.1
  replace h := h.2
  have hso := S.2.2.2.2.2.1
  rw [hst] at hso
  obtain ⟨ha, hb⟩ := mv_sok_app hso
  have hM := h l ad D cA ha S.2.2.2.2.2.2
  refine mv_goes (va_runSN (Ts := mv_tb) (host := "QuoteGrid") (As := as.map (mv_tr ad)) (rest := st'.map (mv_tr ad)) (bytes := bytes) (maxL := mxL) (ret := rt) (n := n) (index := idx) ⟨X.1, X.2.1, X.2.2.1, X.2.2.2.1, X.2.2.2.2.1⟩ hM
    ⟨⟨⟨rfl, rfl, by show lv + 1 + 1 ≤ lvl + 1; omega, by show 8 + (mxL + 11) + (40 + 30 * lv) ≤ 40 + 30 * lvl; have := hY.2.2.2.2; omega, pay_in X.2.2.2.2.1 (mv_goodIn hY.1), List.mem_cons_self⟩, X.2.2.2.2.1 _ hY.1, X.2.2.2.2.1 _ hY.2.1, hY.2.2.1, fun sig hs => ?_, va_Nw.use rfl (hN _ hl)⟩, X.2.2.2.2.1 _ hstc, trivial⟩
    ⟨mv_blind, fun U hU hW => ⟨rfl, by rw [hU]; exact S.1, S.2.1, va_K.moved hW.alike hK, mv_N.warm hW hN⟩⟩ rfl (by simp [hn]) S.2.2.2.1.1.1 (by rw [hst]; simp) (by show 2 * 0 + _ ≤ 8; rw [mv_catsum]; omega) hd ⟨Nat.zero_le _, Nat.zero_le _⟩) rfl S hb kk
  have h2 := hY.2.2.2.1
  rw [hs] at h2
  exact (Option.some.inj h2).symm
end MVD
