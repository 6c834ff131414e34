/-! THE GROWING MACHINE, for the constructors: cells that are made, by their names (t, j) as in the small machine; their references may still be null. A state: the cells that are there, their addresses, the references that they hold, their numbers. -/
abbrev mg_G : Type := List (Nat × Nat) × (Nat → Nat → Nat) × (Nat → Nat → Nat → Option Nat) × (Nat → Nat → Nat → Int)
def mg_fv (G : mg_G) (t j k : Nat) (o : Option (Nat × Nat × Nat)) : Value := match o with
  | none => .int (Int32.ofInt (G.2.2.2 t j k))
  | some _ => va_rf (G.2.2.1 t j k)
def mg_fs (G : mg_G) (t j : Nat) : List Value := (mv_fd t).mapIdx (fun k o => mg_fv G t j k o)
def mg_cell (cA : Nat → ClassId) (G : mg_G) (t j : Nat) : va_E :=
  if t < 12 then .inr (t, mg_fs G t j)
  else if mv_rt t = true then .inl (cA (mv_ac t), mv_len t, .inr (.inr (.inr (.inr (fun i => G.2.2.1 t j i)))))
  else .inl (cA (mv_ac t), mv_len t, .inl (fun i => Int32.ofInt (G.2.2.2 t j i)))
def mg_ws (cA : Nat → ClassId) (G : mg_G) : va_W := G.1.map (fun x => (G.2.1 x.1 x.2, mg_cell cA G x.1 x.2))
def mg_add (G : mg_G) (t j q : Nat) : mg_G := (G.1 ++ [(t, j)], (fun a b => if a = t ∧ b = j then q else G.2.1 a b), G.2.2.1, G.2.2.2)
def mg_setR (G : mg_G) (t j k : Nat) (v : Option Nat) : mg_G := (G.1, G.2.1, (fun a b c => if a = t ∧ b = j ∧ c = k then v else G.2.2.1 a b c), G.2.2.2)
def mg_setZ (G : mg_G) (t j k : Nat) (x : Int) : mg_G := (G.1, G.2.1, G.2.2.1, mv_up G.2.2.2 t j k x)
/-- cells that aren't there yet hold nothing -/
def mg_ok (G : mg_G) : Prop := ∀ t j, (t, j) ∉ G.1 → ∀ k, G.2.2.1 t j k = none ∧ G.2.2.2 t j k = 0
/-- what was there is still where it was -/
def mg_ex (G G' : mg_G) : Prop := (∀ x, x ∈ G.1 → x ∈ G'.1) ∧ ∀ t j, (t, j) ∈ G.1 → G'.2.1 t j = G.2.1 t j
theorem mg_ex.rf {G : mg_G} : mg_ex G G := ⟨fun _ h => h, fun _ _ _ => rfl⟩
theorem mg_ex.tr {G G1 G2 : mg_G} (h : mg_ex G G1) (h2 : mg_ex G1 G2) : mg_ex G G2 := ⟨fun x hx => h2.1 x (h.1 x hx), fun t j hj => (h2.2 t j (h.1 _ hj)).trans (h.2 t j hj)⟩
theorem mg_ex.add {G : mg_G} {t j q : Nat} (hn : (t, j) ∉ G.1) : mg_ex G (mg_add G t j q) :=
  ⟨fun x hx => List.mem_append_left _ hx, fun a b hab => if_neg (fun z => hn (by rw [← z.1, ← z.2]; exact hab))⟩
theorem mg_ok.add {G : mg_G} (h : mg_ok G) {t j q : Nat} : mg_ok (mg_add G t j q) := fun a b hab k => h a b (fun z => hab (List.mem_append_left _ z)) k
theorem mg_ok.setR {G : mg_G} (h : mg_ok G) {t j k : Nat} {v : Option Nat} (hm : (t, j) ∈ G.1) : mg_ok (mg_setR G t j k v) := fun a b hab i => ⟨(if_neg (fun z : a = t ∧ b = j ∧ i = k => hab (by rw [z.1, z.2.1]; exact hm))).trans (h a b hab i).1, (h a b hab i).2⟩
theorem mg_ok.setZ {G : mg_G} (h : mg_ok G) {t j k : Nat} {x : Int} (hm : (t, j) ∈ G.1) : mg_ok (mg_setZ G t j k x) := fun a b hab i => ⟨(h a b hab i).1, (mv_up_ne (fun z => hab (by rw [z.1, z.2.1]; exact hm))).trans (h a b hab i).2⟩
theorem mg_cell_eq {cA : Nat → ClassId} {G G' : mg_G} {t j : Nat} (hR : ∀ k, G'.2.2.1 t j k = G.2.2.1 t j k) (hZ : ∀ k, G'.2.2.2 t j k = G.2.2.2 t j k) : mg_cell cA G' t j = mg_cell cA G t j := by
  have e2 : mg_fs G' t j = mg_fs G t j := by
    unfold mg_fs
    congr 1
    funext k o
    cases o with
    | none => show Value.int _ = Value.int _; rw [hZ]
    | some o => show va_rf _ = va_rf _; rw [hR]
  unfold mg_cell
  rw [e2]
  simp only [hR, hZ]
theorem mg_cell_setR {cA : Nat → ClassId} {G : mg_G} {t j k : Nat} {v : Option Nat} {a b : Nat} (h : ¬ (a = t ∧ b = j)) : mg_cell cA (mg_setR G t j k v) a b = mg_cell cA G a b :=
  mg_cell_eq (fun _ => if_neg (fun z => h ⟨z.1, z.2.1⟩)) (fun _ => rfl)
theorem mg_cell_setZ {cA : Nat → ClassId} {G : mg_G} {t j k : Nat} {x : Int} {a b : Nat} (h : ¬ (a = t ∧ b = j)) : mg_cell cA (mg_setZ G t j k x) a b = mg_cell cA G a b :=
  mg_cell_eq (fun _ => rfl) (fun _ => mv_up_ne (fun z => h ⟨z.1, z.2.1⟩))
theorem mg_ws_get {A : Nat → Prop} {cA : Nat → ClassId} {G : mg_G} {t j : Nat} (hD : va_D A (mg_ws cA G)) (h : (t, j) ∈ G.1) :
    ∃ q, (mg_ws cA G)[q]? = some (G.2.1 t j, mg_cell cA G t j) ∧ ∀ G' : mg_G, G'.1 = G.1 → G'.2.1 = G.2.1 → (∀ a b, ¬ (a = t ∧ b = j) → mg_cell cA G' a b = mg_cell cA G a b) → (mg_ws cA G).set q (G.2.1 t j, mg_cell cA G' t j) = mg_ws cA G' := by
  obtain ⟨q, hq⟩ := List.getElem?_of_mem h
  have h0 : (mg_ws cA G)[q]? = some (G.2.1 t j, mg_cell cA G t j) := by simp only [mg_ws, List.getElem?_map, hq]; rfl
  refine ⟨q, h0, fun G' h1 h2 hG => ?_⟩
  have hl := (List.getElem?_eq_some_iff.mp h0).1
  apply List.ext_getElem?
  intro i
  by_cases hi : i = q
  · subst hi
    rw [List.getElem?_set_self hl]
    simp only [mg_ws, List.getElem?_map, h1, hq, h2]; rfl
  · rw [List.getElem?_set_ne (Ne.symm hi)]
    simp only [mg_ws, List.getElem?_map, h1, h2]
    cases hx : G.1[i]? with
    | none => rfl
    | some x =>
      obtain ⟨t', j'⟩ := x
      have hne : ¬ (t' = t ∧ j' = j) := by
        rintro ⟨rfl, rfl⟩
        exact hi (hD.1 i q (G.2.1 t' j', mg_cell cA G t' j') (G.2.1 t' j', mg_cell cA G t' j') (by simp only [mg_ws, List.getElem?_map, hx]; rfl) h0 rfl)
      simp only [Option.map_some]
      rw [hG t' j' hne]
theorem mg_ws_add {cA : Nat → ClassId} {G : mg_G} {t j q : Nat} (hn : (t, j) ∉ G.1) : mg_ws cA (mg_add G t j q) = mg_ws cA G ++ [(q, mg_cell cA G t j)] := by
  unfold mg_ws
  show (G.1 ++ [(t, j)]).map _ = _
  rw [List.map_append]
  congr 1
  · refine List.map_congr_left (fun x hx => ?_)
    obtain ⟨a, b⟩ := x
    show ((if a = t ∧ b = j then q else G.2.1 a b), mg_cell cA (mg_add G t j q) a b) = _
    rw [if_neg (fun z => hn (by rw [← z.1, ← z.2]; exact hx))]
    rfl
  · show [((if t = t ∧ j = j then q else G.2.1 t j), mg_cell cA (mg_add G t j q) t j)] = _
    rw [if_pos ⟨rfl, rfl⟩]
    rfl
theorem mg_fs_at {G : mg_G} {C j k : Nat} {o : Option (Nat × Nat × Nat)} (h : (mv_fd C)[k]? = some o) : (mg_fs G C j)[k]? = some (mg_fv G C j k o) := by
  simp only [mg_fs, List.getElem?_mapIdx, h]; rfl
theorem mg_fs_len {G : mg_G} {C j : Nat} : (mg_fs G C j).length = (mv_fd C).length := by simp [mg_fs]
theorem mg_fs_setZ {G : mg_G} {C j k : Nat} {x : Int} (h : (mv_fd C)[k]? = some none) : (mg_fs G C j).set k (.int (Int32.ofInt x)) = mg_fs (mg_setZ G C j k x) C j := by
  apply List.ext_getElem?
  intro i
  have hk : k < (mg_fs G C j).length := by rw [mg_fs_len]; exact (List.getElem?_eq_some_iff.mp h).1
  by_cases hi : i = k
  · subst hi
    rw [List.getElem?_set_self hk, mg_fs_at h]
    simp [mg_fv, mg_setZ, mv_up]
  · rw [List.getElem?_set_ne (Ne.symm hi)]
    simp only [mg_fs, List.getElem?_mapIdx]
    cases (mv_fd C)[i]? with
    | none => rfl
    | some o => cases o <;> simp [mg_fv, mg_setZ, mv_up, hi]
theorem mg_fs_setR {G : mg_G} {C j k q : Nat} {o : Nat × Nat × Nat} (h : (mv_fd C)[k]? = some (some o)) : (mg_fs G C j).set k (.ref q) = mg_fs (mg_setR G C j k (some q)) C j := by
  apply List.ext_getElem?
  intro i
  have hk : k < (mg_fs G C j).length := by rw [mg_fs_len]; exact (List.getElem?_eq_some_iff.mp h).1
  by_cases hi : i = k
  · subst hi
    rw [List.getElem?_set_self hk, mg_fs_at h]
    simp [mg_fv, mg_setR, va_rf]
  · rw [List.getElem?_set_ne (Ne.symm hi)]
    simp only [mg_fs, List.getElem?_mapIdx]
    cases (mv_fd C)[i]? with
    | none => rfl
    | some o => cases o <;> simp [mg_fv, mg_setR, hi]
theorem mg_cell_obj {cA : Nat → ClassId} {G : mg_G} {C j : Nat} (h : C < 12) : mg_cell cA G C j = .inr (C, mg_fs G C j) := if_pos h
theorem mg_cell_int {cA : Nat → ClassId} {G : mg_G} {t j : Nat} (h : ¬ t < 12) (hr : mv_rt t = false) : mg_cell cA G t j = .inl (cA (mv_ac t), mv_len t, .inl (fun i => Int32.ofInt (G.2.2.2 t j i))) := by
  unfold mg_cell; rw [if_neg h, if_neg (by rw [hr]; decide)]
theorem mg_cell_ref {cA : Nat → ClassId} {G : mg_G} {t j : Nat} (h : ¬ t < 12) (hr : mv_rt t = true) : mg_cell cA G t j = .inl (cA (mv_ac t), mv_len t, .inr (.inr (.inr (.inr (fun i => G.2.2.1 t j i))))) := by
  unfold mg_cell; rw [if_neg h, if_pos hr]
def mg_AO (U : State) : Prop := ∀ C ∈ [RX0, RX5, RX1, RX7, RX2], va_AO C U
theorem mg_AO.moved {u U : State} (hvm : u.vm.Alike U.vm) (h : mg_AO u) : mg_AO U := fun C hC => (h C hC).moved hvm
def mg_vok (G : mg_G) (v : mv_V) : Prop := match v with
  | .inl x => -2147483648 ≤ x ∧ x ≤ 2147483647
  | .inr y => y ∈ G.1
def mg_Lok (G : mg_G) (L : mv_L) : Prop := ∀ (i : Nat) (v : mv_V), L[i]? = some (some v) → mg_vok G v
def mg_Sok (G : mg_G) (st : List mv_V) : Prop := ∀ v ∈ st, mg_vok G v
theorem mg_vok.ex {G G' : mg_G} {v : mv_V} (h : mg_vok G v) (he : mg_ex G G') : mg_vok G' v := by
  rcases v with x | y
  · exact h
  · exact he.1 y h
theorem mg_tr_ex {G G' : mg_G} {v : mv_V} (h : mg_vok G v) (he : mg_ex G G') : mv_tr G'.2.1 v = mv_tr G.2.1 v := by
  rcases v with x | ⟨t, j⟩
  · rfl
  · show Value.ref _ = Value.ref _
    rw [he.2 t j h]
theorem mg_F_ex {G G' : mg_G} {n : Nat} {ls : Array Slot} {L : mv_L} (h : mv_F G.2.1 n ls L) (hL : mg_Lok G L) (he : mg_ex G G') : mv_F G'.2.1 n ls L := by
  refine ⟨⟨h.1.1, h.1.2.1, fun q hq => ?_⟩, h.2⟩
  obtain ⟨i, x⟩ := q
  obtain ⟨v, hv, rfl⟩ := mv_pr_mem.mp hq
  rw [mg_tr_ex (hL i v hv) he]
  exact h.1.2.2 _ (mv_pr_mem.mpr ⟨v, hv, rfl⟩)
theorem mg_st_ex {G G' : mg_G} {st : List mv_V} (h : mg_Sok G st) (he : mg_ex G G') : st.map (mv_tr G'.2.1) = st.map (mv_tr G.2.1) := List.map_congr_left (fun v hv => mg_tr_ex (h v hv) he)
theorem mg_Lok.ex {G G' : mg_G} {L : mv_L} (h : mg_Lok G L) (he : mg_ex G G') : mg_Lok G' L := fun i v hv => (h i v hv).ex he
theorem mg_Sok.ex {G G' : mg_G} {st : List mv_V} (h : mg_Sok G st) (he : mg_ex G G') : mg_Sok G' st := fun v hv => (h v hv).ex he
theorem mg_Lok.set {G : mg_G} {L : mv_L} (h : mg_Lok G L) {i : Nat} {v : mv_V} (hv : mg_vok G v) : mg_Lok G (L.set i (some v)) := by
  intro j w hw
  rw [List.getElem?_set] at hw
  by_cases hj : i = j
  · subst hj
    simp at hw
    rw [← hw.2]; exact hv
  · rw [if_neg hj] at hw
    exact h j w hw
theorem mg_Sok.cons {G : mg_G} {v : mv_V} {st : List mv_V} (hv : mg_vok G v) (h : mg_Sok G st) : mg_Sok G (v :: st) := fun w hw => (List.mem_cons.mp hw).elim (fun e => by rw [e]; exact hv) (h w)
theorem mg_Sok.tl {G : mg_G} {v : mv_V} {st : List mv_V} (h : mg_Sok G (v :: st)) : mg_Sok G st := fun w hw => h w (List.mem_cons_of_mem _ hw)
theorem mg_Sok.hd {G : mg_G} {v : mv_V} {st : List mv_V} (h : mg_Sok G (v :: st)) : mg_vok G v := h v List.mem_cons_self
def mg_rm (lvl C S : Nat) : Room := { frames := lvl + 1, cells := C, slots := S, locals := 40 + 30 * lvl }
abbrev mg_K : Type := Nat → mv_L → List mv_V → mg_G → Nat → Nat → Prop
abbrev mg_O : Type := mg_K → (mg_G → Prop) → mv_L → List mv_V → mg_G → Nat → Nat → Prop
def mg_Qc (D : va_G) (cA : Nat → ClassId) (A : Nat → Prop) (G0 : mg_G) (Q : mg_G → Prop) : Array Value → State → Outcome → State → Prop :=
  va_Qv (S := mg_G) Q (fun G t => va_P D vwCl (mg_ws cA G) t.heap ∧ va_D A (mg_ws cA G) ∧ mg_ok G ∧ mg_ex G0 G) A
def mg_Pc (D : va_G) (cA : Nat → ClassId) (G : mg_G) (sz t j : Nat) : Array Value → State → Prop := fun a U =>
  a = #[.ref (G.2.1 t j)] ∧ U.heap.size = sz ∧ va_P D vwCl (mg_ws cA G) U.heap ∧ va_D (fun _ => True) (mg_ws cA G) ∧ va_K D vwCl (mv_tys cA) U ∧ mv_N U ∧ mg_AO U
/-- a constructor's contract -/
def mg_Ev (lvl C S : Nat) (y : MethodName) (cc : ByteArray) (maxL : Nat) (G : mg_G) (t j : Nat) (Q : mg_G → Prop) : Prop :=
  ∀ (l : Launch) (D : va_G) (cA : Nat → ClassId) (sz : Nat), (t, j) ∈ G.1 → mg_ok G → Met l y (Cond.code y cc maxL none :: mv_tb) (mg_rm lvl C S) (mg_Pc D cA G sz t j) (mg_Qc D cA (va_A (mg_ws cA G) sz) G Q) C S (va_A (mg_ws cA G) sz)
def mg_St (D : va_G) (cA : Nat → ClassId) (A : Nat → Prop) (n : Nat) (H0 : Heap) (G0 G : mg_G) (L : mv_L) (st : List mv_V) (H : Heap) (locs : List Loc) (ls : Array Slot) : Prop :=
  va_P D vwCl (mg_ws cA G) H ∧ va_D A (mg_ws cA G) ∧ va_S A H0 H locs ∧ mv_F G.2.1 n ls L ∧ mg_Lok G L ∧ mg_Sok G st ∧ mg_ok G ∧ mg_ex G0 G
def mg_Cx (cc : ByteArray) (maxL : Nat) (own : String) (cA : Nat → ClassId) (D : va_G) (A : Nat → Prop) (p : Program) (s : State) (m : MethodId) (args : Array Value) (meth : Method) (c : Code) : Prop :=
  mv_Cx cc maxL none own p s m args meth c ∧ va_K D vwCl (mv_tys cA) s ∧ mv_N s ∧ mg_AO s ∧ (∀ q, s.heap.size ≤ q → A q) ∧ meth.name = "<init>"
def mg_Snd (cc : ByteArray) (maxL : Nat) (own : String) (lvl C S pc : Nat) (op : mg_O) : Prop :=
  ∀ (p : Program) (l : Launch) (e : Env) (s : State) (m : MethodId) (args : Array Value) (below : List Frame) (meth : Method) (c : Code) (D : va_G) (cA : Nat → ClassId) (A : Nat → Prop) (K : mg_K) (Q : mg_G → Prop) (G0 : mg_G) (L : mv_L) (st : List mv_V) (G : mg_G) (nc ns : Nat) (H : Heap) (locs : List Loc) (ls : Array Slot),
    mg_Cx cc maxL own cA D A p s m args meth c → op K Q L st G nc ns → mg_St D cA A maxL s.heap G0 G L st H locs ls →
    (∀ (pc' : Nat) (L' : mv_L) (st' : List mv_V) (G' : mg_G) (nc' ns' : Nat) (H' : Heap) (locs' : List Loc) (ls' : Array Slot), K pc' L' st' G' nc' ns' → mg_St D cA A maxL s.heap G0 G' L' st' H' locs' ls' →
      W p l e (mg_rm lvl C S) s m args below meth c H' locs' nc' ns' (MQ below (mg_Qc D cA A G0 Q) args s C S A) (F0 m pc' ls' (st'.map (mv_tr G'.2.1)))) →
    W p l e (mg_rm lvl C S) s m args below meth c H locs nc ns (MQ below (mg_Qc D cA A G0 Q) args s C S A) (F0 m pc ls (st.map (mv_tr G.2.1)))
-- the operators
def ng_no : mg_O := fun _ _ _ _ _ _ _ => False
def ng_const (z : Int) (nx : Nat) : mg_O := fun K _ L st G nc ns => K nx L (.inl z :: st) G nc ns
def ng_iload (i nx : Nat) : mg_O := fun K _ L st G nc ns => mv_get L i (fun v => match v with
  | .inl x => K nx L (.inl x :: st) G nc ns
  | .inr _ => False)
def ng_aload (i nx : Nat) : mg_O := fun K _ L st G nc ns => mv_get L i (fun v => match v with
  | .inr (t, j) => K nx L (.inr (t, j) :: st) G nc ns
  | .inl _ => False)
def ng_istore (i nx : Nat) : mg_O := fun K _ L st G nc ns => match st with
  | .inl x :: st' => mv_set L i (.inl x) (fun L' => K nx L' st' G nc ns)
  | _ => False
def ng_iinc (i : Nat) (d : Int) (nx : Nat) : mg_O := fun K _ L st G nc ns => mv_get L i (fun v => match v with
  | .inl x => (-2147483648 ≤ x + d ∧ x + d ≤ 2147483647) ∧ mv_set L i (.inl (x + d)) (fun L' => K nx L' st G nc ns)
  | .inr _ => False)
def ng_dup (nx : Nat) : mg_O := fun K _ L st G nc ns => match st with
  | v :: st' => K nx L (v :: v :: st') G nc ns
  | _ => False
def ng_goto (tg : Nat) : mg_O := fun K _ L st G nc ns => K tg L st G nc ns
def ng_cge (tg nx : Nat) : mg_O := fun K _ L st G nc ns => match st with
  | .inl y :: .inl x :: st' => (y ≤ x → K tg L st' G nc ns) ∧ (x < y → K nx L st' G nc ns)
  | _ => False
def ng_ret (C S : Nat) : mg_O := fun _ Q _ st G nc ns => match st with
  | [] => (nc ≤ C ∧ ns ≤ S) ∧ Q G
  | _ => False
def ng_obj (nx : Nat) : mg_O := fun K _ L st G nc ns => match st with
  | .inr _ :: st' => cond (Nat.ble st'.length 8) (K nx L st' G nc ns) False
  | _ => False
def ng_new (t N C S nx : Nat) : mg_O := fun K _ L st G nc ns => ∃ j, (t, j) ∉ G.1 ∧ (nc + 1 ≤ C ∧ ns + N ≤ S) ∧ ∀ q, K nx L (.inr (t, j) :: st) (mg_add G t j q) (nc + 1) (ns + N)
def ng_arr (t N C S nx : Nat) : mg_O := fun K _ L st G nc ns => match st with
  | .inl n :: st' => n = (N : Int) ∧ ∃ j, (t, j) ∉ G.1 ∧ (nc + 1 ≤ C ∧ ns + N ≤ S) ∧ ∀ q, K nx L (.inr (t, j) :: st') (mg_add G t j q) (nc + 1) (ns + N)
  | _ => False
def ng_putr (C k nx : Nat) : mg_O := fun K _ L st G nc ns => match st with
  | .inr (t2, j2) :: .inr (t, j) :: st' => cond (Nat.beq t C) (K nx L st' (mg_setR G C j k (some (G.2.1 t2 j2))) nc ns) False
  | _ => False
def ng_puti (C k nx : Nat) : mg_O := fun K _ L st G nc ns => match st with
  | .inl x :: .inr (t, j) :: st' => cond (Nat.beq t C) (K nx L st' (mg_setZ G C j k x) nc ns) False
  | _ => False
def ng_putz (C k nx : Nat) : mg_O := fun K _ L st G nc ns => match st with
  | .inl x :: .inr (t, j) :: st' => cond (Nat.beq t C) ((x = 0 ∨ x = 1) ∧ K nx L st' (mg_setZ G C j k x) nc ns) False
  | _ => False
def ng_getr (C k t2 nx : Nat) : mg_O := fun K _ L st G nc ns => match st with
  | .inr (t, j) :: st' => cond (Nat.beq t C) (∃ j2, (t2, j2) ∈ G.1 ∧ G.2.2.1 C j k = some (G.2.1 t2 j2) ∧ K nx L (.inr (t2, j2) :: st') G nc ns) False
  | _ => False
def ng_iast (T N nx : Nat) : mg_O := fun K _ L st G nc ns => match st with
  | .inl x :: .inl i :: .inr (t, j) :: st' => cond (Nat.beq t T) ((0 ≤ i ∧ i < (N : Int)) ∧ K nx L st' (mg_setZ G T j i.toNat x) nc ns) False
  | _ => False
def ng_aast (T T2 N nx : Nat) : mg_O := fun K _ L st G nc ns => match st with
  | .inr (t2, j2) :: .inl i :: .inr (t, j) :: st' => cond (Nat.beq t T) (cond (Nat.beq t2 T2) ((0 ≤ i ∧ i < (N : Int)) ∧ K nx L st' (mg_setR G T j i.toNat (some (G.2.1 t2 j2))) nc ns) False) False
  | _ => False
def ng_init (lv C1 S1 : Nat) (y : MethodName) (bytes : ByteArray) (mxL T C S nx : Nat) : mg_O := fun K _ L st G nc ns => match st with
  | .inr (t, j) :: st' => cond (Nat.beq t T) (cond (Nat.ble st'.length 8) ((nc + C1 ≤ C ∧ ns + S1 ≤ S) ∧ mg_Ev lv C1 S1 y bytes mxL G T j (fun G' => mg_ex G G' → K nx L st' G' (nc + C1) (ns + S1))) False) False
  | _ => False
