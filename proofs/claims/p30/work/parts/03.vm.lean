/-! THE SMALL MACHINE. After the two constructors no object is ever made, and no reference field changes but the order of the history's states. So the world is a fixed family of cells (t, j): t a tag (0..11 the classes of vwCl, 12.. arrays by their part), j a number among those of the tag; what changes are whole numbers, m.1 t j k (field or place k of the cell), and m.2 (which state stands at which place of the history's row). An instruction is an operator on conditions (mo_..), a method's code a list of (pc, operator); mv_run walks it; mv_Snd says that an operator is sound for the machine at a pc. -/
abbrev mv_V : Type := Int ⊕ (Nat × Nat)
abbrev mv_L : Type := List (Option mv_V)
abbrev mv_M : Type := (Nat → Nat → Nat → Int) × (Nat → Nat)
abbrev mv_K : Type := Nat → mv_L → List mv_V → mv_M → Prop
abbrev mv_R : Type := Option mv_V → mv_M → Prop
abbrev mv_O : Type := mv_K → mv_R → mv_L → List mv_V → mv_M → Prop
-- the family of cells
def mv_cnt (t : Nat) : Nat := ([120, 20, 18, 1, 3, 160, 1, 6, 1, 1, 1, 0, 20, 20, 20, 120, 6, 6, 1, 1, 3, 3, 18, 18, 0, 0, 0, 0, 0, 0, 0, 0, 0] : List Nat).getD t 0
def mv_len (t : Nat) : Nat := ([0, 0, 0, 0, 0, 0, 0, 0, 0, 0, 0, 0, 6, 8, 3, 8, 2, 2, 5, 140, 360, 6, 200, 3, 407, 407, 2035, 140, 360, 1200, 6, 6, 6] : List Nat).getD t 0
/-- an array of references? -/
def mv_rt (t : Nat) : Bool := Nat.beq t 12 || Nat.beq t 13 || Nat.beq t 16 || Nat.beq t 18 || Nat.beq t 21
/-- which array class: 0 int[], 1 boolean[], 2 Article[], 3 Quote[], 4 Content[], 5 State[], 6 Flow[] -/
def mv_ac (t : Nat) : Nat := ([0, 0, 0, 0, 0, 0, 0, 0, 0, 0, 0, 0, 2, 3, 0, 0, 4, 1, 5, 0, 0, 6] : List Nat).getD t 0
def mv_at (i : Nat) : FieldType := ([.int, .boolean, .object RX0, .object RX5, .object RX1, .object RX7, .object RX2] : List FieldType).getD i .int
/-- the fields of a class: none a number, some (t, a, b) a reference to the cell (t, a * j + b) -/
def mv_fd (C : Nat) : List (Option (Nat × Nat × Nat)) :=
  ([ [some (15, 1, 0), none, none, none],
     [some (12, 1, 0), some (13, 1, 0), some (14, 1, 0), none, none],
     [some (22, 1, 0), some (23, 1, 0), none, none, none],
     [some (18, 0, 0), none],
     [some (20, 1, 0), some (21, 1, 0), none],
     [none, none, none, none, none, none, none, none],
     [some (8, 0, 0), some (1, 0, 19), none, none, none],
     [some (1, 3, 0), some (16, 1, 0), some (17, 1, 0)],
     [some (19, 0, 0), none],
     [some (1, 0, 18), some (4, 0, 0), some (4, 0, 1), none, none, none],
     [some (7, 0, 0), some (3, 0, 0), some (6, 0, 0), some (8, 0, 0), some (9, 0, 0), some (4, 0, 2), none],
     [none, some (24, 0, 0), some (25, 0, 0), some (26, 0, 0), none, some (27, 0, 0), none, some (28, 0, 0), some (29, 0, 0), some (30, 0, 0), some (31, 0, 0), some (32, 0, 0), none, none, none, none, none, none, none] ] : List (List (Option (Nat × Nat × Nat)))).getD C []
/-- the cells that an array of references holds: their tag, their number -/
def mv_et (t : Nat) : Nat := cond (Nat.beq t 12) 0 (cond (Nat.beq t 13) 5 (cond (Nat.beq t 16) 1 (cond (Nat.beq t 18) 7 2)))
def mv_ei (M : mv_M) (t j i : Nat) : Nat := cond (Nat.beq t 12) (6 * j + i) (cond (Nat.beq t 13) (8 * j + i) (cond (Nat.beq t 16) (3 * j + 1 + i) (cond (Nat.beq t 18) (M.2 i) (6 * j + i))))
def mv_IX : List (Nat × Nat) := (List.range 33).flatMap (fun t => (List.range (mv_cnt t)).map (fun j => (t, j)))
theorem mv_IX_mem {t j : Nat} (ht : t < 33) (hj : j < mv_cnt t) : (t, j) ∈ mv_IX :=
  List.mem_flatMap.mpr ⟨t, List.mem_range.mpr ht, List.mem_map.mpr ⟨j, List.mem_range.mpr hj, rfl⟩⟩
theorem mv_mem_IX {x : Nat × Nat} (h : x ∈ mv_IX) : x.1 < 33 ∧ x.2 < mv_cnt x.1 := by
  obtain ⟨t, ht, h⟩ := List.mem_flatMap.mp h
  obtain ⟨j, hj, rfl⟩ := List.mem_map.mp h
  exact ⟨List.mem_range.mp ht, List.mem_range.mp hj⟩
-- what the machine's cells hold
def mv_tr (ad : Nat → Nat → Nat) (v : mv_V) : Value := match v with
  | .inl x => .int (Int32.ofInt x)
  | .inr (t, j) => .ref (ad t j)
def mv_fv (ad : Nat → Nat → Nat) (M : mv_M) (t j k : Nat) (o : Option (Nat × Nat × Nat)) : Value := match o with
  | none => .int (Int32.ofInt (M.1 t j k))
  | some (t2, a, b) => .ref (ad t2 (a * j + b))
def mv_fs (ad : Nat → Nat → Nat) (M : mv_M) (t j : Nat) : List Value := (mv_fd t).mapIdx (fun k o => mv_fv ad M t j k o)
def mv_cell (ad : Nat → Nat → Nat) (cA : Nat → ClassId) (M : mv_M) (t j : Nat) : va_E :=
  if t < 12 then .inr (t, mv_fs ad M t j)
  else if mv_rt t = true then .inl (cA (mv_ac t), mv_len t, .inr (.inr (.inr (.inr (fun i => some (ad (mv_et t) (mv_ei M t j i)))))))
  else .inl (cA (mv_ac t), mv_len t, .inl (fun i => Int32.ofInt (M.1 t j i)))
def mv_ws (ad : Nat → Nat → Nat) (cA : Nat → ClassId) (M : mv_M) : va_W := mv_IX.map (fun x => (ad x.1 x.2, mv_cell ad cA M x.1 x.2))
def mv_tys (cA : Nat → ClassId) : List (ClassId × FieldType) := (List.range 7).map (fun i => (cA i, mv_at i))
theorem mv_tys_at (cA : Nat → ClassId) {i : Nat} (h : i < 7) : (mv_tys cA)[i]? = some (cA i, mv_at i) := by
  simp [mv_tys, h]
/-- whose cells these are -/
def mv_A (ad : Nat → Nat → Nat) : Nat → Prop := fun q => ∃ t j, (t, j) ∈ mv_IX ∧ q = ad t j
def mv_up (f : Nat → Nat → Nat → Int) (t j k : Nat) (v : Int) : Nat → Nat → Nat → Int := fun a b c => if a = t ∧ b = j ∧ c = k then v else f a b c
def mv_us (f : Nat → Nat) (i v : Nat) : Nat → Nat := fun k => if k = i then v else f k
theorem mv_ws_get {A : Nat → Prop} {ad : Nat → Nat → Nat} {cA : Nat → ClassId} {M : mv_M} {t j : Nat} (hD : va_D A (mv_ws ad cA M)) (h : (t, j) ∈ mv_IX) :
    ∃ q, (mv_ws ad cA M)[q]? = some (ad t j, mv_cell ad cA M t j) ∧ ∀ M' : mv_M, (∀ t' j', (t', j') ∈ mv_IX → ¬ (t' = t ∧ j' = j) → mv_cell ad cA M' t' j' = mv_cell ad cA M t' j') → (mv_ws ad cA M).set q (ad t j, mv_cell ad cA M' t j) = mv_ws ad cA M' := by
  obtain ⟨q, hq⟩ := List.getElem?_of_mem h
  have h0 : (mv_ws ad cA M)[q]? = some (ad t j, mv_cell ad cA M t j) := by simp only [mv_ws, List.getElem?_map, hq]; rfl
  refine ⟨q, h0, fun M' hM => ?_⟩
  have hl := (List.getElem?_eq_some_iff.mp h0).1
  apply List.ext_getElem?
  intro i
  by_cases hi : i = q
  · subst hi
    rw [List.getElem?_set_self hl]
    simp only [mv_ws, List.getElem?_map, hq]; rfl
  · rw [List.getElem?_set_ne (Ne.symm hi)]
    simp only [mv_ws, List.getElem?_map]
    cases hx : mv_IX[i]? with
    | none => rfl
    | some x =>
      obtain ⟨t', j'⟩ := x
      have hne : ¬ (t' = t ∧ j' = j) := by
        rintro ⟨rfl, rfl⟩
        exact hi (hD.1 i q (ad t' j', mv_cell ad cA M t' j') (ad t' j', mv_cell ad cA M t' j') (by simp only [mv_ws, List.getElem?_map, hx]; rfl) h0 rfl)
      simp only [Option.map_some]
      rw [hM t' j' (List.mem_of_getElem? hx) hne]
theorem mv_fs_at {ad : Nat → Nat → Nat} {M : mv_M} {C j k : Nat} {o : Option (Nat × Nat × Nat)} (h : (mv_fd C)[k]? = some o) : (mv_fs ad M C j)[k]? = some (mv_fv ad M C j k o) := by
  simp only [mv_fs, List.getElem?_mapIdx, h]; rfl
theorem mv_fs_len {ad : Nat → Nat → Nat} {M : mv_M} {C j : Nat} : (mv_fs ad M C j).length = (mv_fd C).length := by
  simp [mv_fs]
theorem mv_cell_obj {ad : Nat → Nat → Nat} {cA : Nat → ClassId} {M : mv_M} {C j : Nat} (h : C < 12) : mv_cell ad cA M C j = .inr (C, mv_fs ad M C j) := if_pos h
theorem mv_cell_int {ad : Nat → Nat → Nat} {cA : Nat → ClassId} {M : mv_M} {t j : Nat} (h : ¬ t < 12) (hr : mv_rt t = false) : mv_cell ad cA M t j = .inl (cA (mv_ac t), mv_len t, .inl (fun i => Int32.ofInt (M.1 t j i))) := by
  unfold mv_cell; rw [if_neg h, if_neg (by rw [hr]; decide)]
theorem mv_cell_ref {ad : Nat → Nat → Nat} {cA : Nat → ClassId} {M : mv_M} {t j : Nat} (h : ¬ t < 12) (hr : mv_rt t = true) : mv_cell ad cA M t j = .inl (cA (mv_ac t), mv_len t, .inr (.inr (.inr (.inr (fun i => some (ad (mv_et t) (mv_ei M t j i))))))) := by
  unfold mv_cell; rw [if_neg h, if_pos hr]
/-- a number of an object is written -/
theorem mv_fs_put {ad : Nat → Nat → Nat} {M : mv_M} {C j k : Nat} {x : Int} (h : (mv_fd C)[k]? = some none) : (mv_fs ad M C j).set k (.int (Int32.ofInt x)) = mv_fs ad (mv_up M.1 C j k x, M.2) C j := by
  apply List.ext_getElem?
  intro i
  have hk : k < (mv_fs ad M C j).length := by rw [mv_fs_len]; exact (List.getElem?_eq_some_iff.mp h).1
  by_cases hi : i = k
  · subst hi
    rw [List.getElem?_set_self hk, mv_fs_at h]
    simp [mv_fv, mv_up]
  · rw [List.getElem?_set_ne (Ne.symm hi)]
    simp only [mv_fs, List.getElem?_mapIdx]
    cases (mv_fd C)[i]? with
    | none => rfl
    | some o => cases o <;> simp [mv_fv, mv_up, hi]
theorem mv_cell_up {ad : Nat → Nat → Nat} {cA : Nat → ClassId} {M : mv_M} {t j k : Nat} {x : Int} {t' j' : Nat} (h : ¬ (t' = t ∧ j' = j)) : mv_cell ad cA (mv_up M.1 t j k x, M.2) t' j' = mv_cell ad cA M t' j' := by
  have e : ∀ i, mv_up M.1 t j k x t' j' i = M.1 t' j' i := fun i => if_neg (fun q => h ⟨q.1, q.2.1⟩)
  have e2 : mv_fs ad (mv_up M.1 t j k x, M.2) t' j' = mv_fs ad M t' j' := by
    unfold mv_fs
    congr 1
    funext i o
    cases o with
    | none => simp [mv_fv, e]
    | some o => rfl
  unfold mv_cell
  rw [e2]
  by_cases h1 : t' < 12
  · rw [if_pos h1, if_pos h1]
  · rw [if_neg h1, if_neg h1]
    by_cases h2 : mv_rt t' = true
    · rw [if_pos h2, if_pos h2]; rfl
    · rw [if_neg h2, if_neg h2]
      simp only [e]
