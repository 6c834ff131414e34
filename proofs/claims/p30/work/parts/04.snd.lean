/-! The frame of the small machine, what soundness means, and the rows of the plain instructions. -/
def mv_pr (ad : Nat → Nat → Nat) (L : mv_L) : List (Nat × Value) := L.zipIdx.filterMap (fun x => x.1.map (fun v => (x.2, mv_tr ad v)))
theorem mv_pr_mem {ad : Nat → Nat → Nat} {L : mv_L} {i : Nat} {x : Value} : (i, x) ∈ mv_pr ad L ↔ ∃ v, L[i]? = some (some v) ∧ x = mv_tr ad v := by
  simp only [mv_pr, List.mem_filterMap]
  constructor
  · rintro ⟨⟨o, n⟩, h1, h2⟩
    have h1 := List.mem_zipIdx_iff_getElem?.mp h1
    cases o with
    | none => simp at h2
    | some v =>
      simp only [Option.map_some, Option.some.injEq, Prod.mk.injEq] at h2
      obtain ⟨rfl, rfl⟩ := h2
      exact ⟨v, h1, rfl⟩
  · rintro ⟨v, h1, rfl⟩
    exact ⟨(some v, i), List.mem_zipIdx_iff_getElem?.mpr h1, rfl⟩
theorem mv_tr_cat (ad : Nat → Nat → Nat) (v : mv_V) : (mv_tr ad v).category = 1 := by
  rcases v with x | ⟨t, j⟩ <;> rfl
def mv_F (ad : Nat → Nat → Nat) (n : Nat) (ls : Array Slot) (L : mv_L) : Prop := lv_has ls n (mv_pr ad L) ∧ L.length ≤ n
theorem mv_F.at {ad : Nat → Nat → Nat} {n : Nat} {ls : Array Slot} {L : mv_L} (h : mv_F ad n ls L) {i : Nat} {v : mv_V} (hv : L[i]? = some (some v)) : ls[i]? = some (.val (mv_tr ad v)) :=
  h.1.2.2 (i, mv_tr ad v) (mv_pr_mem.mpr ⟨v, hv, rfl⟩)
theorem mv_F.put {ad : Nat → Nat → Nat} {n : Nat} {ls ls' : Array Slot} {L : mv_L} (h : mv_F ad n ls L) {i : Nat} {v : mv_V}
    (h' : lv_has ls' n ((i, mv_tr ad v) :: (mv_pr ad L).filter (fun q => !(q.1 == i) && !(q.1 + 1 == i && q.2.category == 2)))) : mv_F ad n ls' (L.set i (some v)) := by
  refine ⟨⟨h'.1, h'.2.1, fun q hq => h'.2.2 q ?_⟩, by rw [List.length_set]; exact h.2⟩
  obtain ⟨j, x⟩ := q
  obtain ⟨w, hw, rfl⟩ := mv_pr_mem.mp hq
  rw [List.getElem?_set] at hw
  by_cases hj : i = j
  · subst hj
    simp at hw
    rw [hw.2]
    exact List.mem_cons_self
  · rw [if_neg hj] at hw
    refine List.mem_cons_of_mem _ (List.mem_filter.mpr ⟨mv_pr_mem.mpr ⟨w, hw, rfl⟩, ?_⟩)
    have hc := mv_tr_cat ad w
    simp only [hc]
    have : (j == i) = false := by simp; exact fun q => hj q.symm
    simp [this]
def mv_vok (v : mv_V) : Prop := match v with
  | .inl x => -2147483648 ≤ x ∧ x ≤ 2147483647
  | .inr (t, j) => t < 33 ∧ j < mv_cnt t
def mv_Lok (L : mv_L) : Prop := ∀ (i : Nat) (v : mv_V), L[i]? = some (some v) → mv_vok v
def mv_Sok (st : List mv_V) : Prop := ∀ v ∈ st, mv_vok v
def mv_Mok (M : mv_M) : Prop := (∀ t j k, -2147483648 ≤ M.1 t j k ∧ M.1 t j k ≤ 2147483647) ∧ ∀ i, M.2 i < 6
theorem mv_Lok.set {L : mv_L} (h : mv_Lok L) {i : Nat} {v : mv_V} (hv : mv_vok v) : mv_Lok (L.set i (some v)) := by
  intro j w hw
  rw [List.getElem?_set] at hw
  by_cases hj : i = j
  · subst hj
    simp at hw
    rw [← hw.2]; exact hv
  · rw [if_neg hj] at hw
    exact h j w hw
theorem mv_Sok.cons {v : mv_V} {st : List mv_V} (hv : mv_vok v) (h : mv_Sok st) : mv_Sok (v :: st) := fun w hw => (List.mem_cons.mp hw).elim (fun e => by rw [e]; exact hv) (h w)
theorem mv_Sok.tl {v : mv_V} {st : List mv_V} (h : mv_Sok (v :: st)) : mv_Sok st := fun w hw => h w (List.mem_cons_of_mem _ hw)
theorem mv_Sok.hd {v : mv_V} {st : List mv_V} (h : mv_Sok (v :: st)) : mv_vok v := h v List.mem_cons_self
-- whole numbers
theorem mv_toInt {x : Int} (h : -2147483648 ≤ x ∧ x ≤ 2147483647) : (Int32.ofInt x).toInt = x := Int32.toInt_ofInt_of_le (by omega) (by omega)
theorem mv_add (x y : Int) : Int32.ofInt x + Int32.ofInt y = Int32.ofInt (x + y) := (Int32.ofInt_add x y).symm
theorem mv_sub (x y : Int) : Int32.ofInt x - Int32.ofInt y = Int32.ofInt (x - y) := (Int32.ofInt_sub x y).symm
theorem mv_mul (x y : Int) : Int32.ofInt x * Int32.ofInt y = Int32.ofInt (x * y) := (Int32.ofInt_mul x y).symm
theorem mv_neg (x : Int) : -Int32.ofInt x = Int32.ofInt (-x) := (Int32.ofInt_neg x).symm
theorem mv_ieq {x y : Int} (hx : -2147483648 ≤ x ∧ x ≤ 2147483647) (hy : -2147483648 ≤ y ∧ y ≤ 2147483647) : Int32.ofInt x = Int32.ofInt y ↔ x = y :=
  ⟨fun h => by rw [← mv_toInt hx, ← mv_toInt hy, h], fun h => by rw [h]⟩
theorem mv_ile {x y : Int} (hx : -2147483648 ≤ x ∧ x ≤ 2147483647) (hy : -2147483648 ≤ y ∧ y ≤ 2147483647) : Int32.ofInt x ≤ Int32.ofInt y ↔ x ≤ y := by
  rw [Int32.le_iff_toInt_le, mv_toInt hx, mv_toInt hy]
theorem mv_ilt {x y : Int} (hx : -2147483648 ≤ x ∧ x ≤ 2147483647) (hy : -2147483648 ≤ y ∧ y ≤ 2147483647) : Int32.ofInt x < Int32.ofInt y ↔ x < y := by
  rw [Int32.lt_iff_toInt_lt, mv_toInt hx, mv_toInt hy]
theorem mv_i0 : (0 : Int32) = Int32.ofInt 0 := rfl
theorem mv_r0 : -2147483648 ≤ (0 : Int) ∧ (0 : Int) ≤ 2147483647 := ⟨by decide, by decide⟩
theorem mv_div {x y : Int} (hx : 0 ≤ x ∧ x ≤ 2147483647) (hy : 0 < y ∧ y ≤ 2147483647) : Int32.ofInt x / Int32.ofInt y = Int32.ofInt (x / y) := by
  have hx' : -2147483648 ≤ x ∧ x ≤ 2147483647 := ⟨by omega, hx.2⟩
  have hy' : -2147483648 ≤ y ∧ y ≤ 2147483647 := ⟨by omega, hy.2⟩
  have hq : 0 ≤ x / y ∧ x / y ≤ x := ⟨Int.ediv_nonneg hx.1 (by omega), Int.ediv_le_self y hx.1⟩
  have hne : Int32.ofInt y ≠ -1 := by
    intro h
    have := congrArg Int32.toInt h
    rw [mv_toInt hy', show ((-1 : Int32)).toInt = -1 by decide] at this
    omega
  rw [← Int32.toInt_inj, Int32.toInt_div_of_ne_right _ _ hne, mv_toInt hx', mv_toInt hy', mv_toInt ⟨by omega, by omega⟩]
  exact Int.tdiv_eq_ediv_of_nonneg hx.1
theorem mv_rem {x y : Int} (hx : 0 ≤ x ∧ x ≤ 2147483647) (hy : 0 < y ∧ y ≤ 2147483647) : Int32.ofInt x - Int32.ofInt x / Int32.ofInt y * Int32.ofInt y = Int32.ofInt (x % y) := by
  rw [mv_div hx hy, mv_mul, mv_sub]
  congr 1
  have := Int.emod_def x y
  have h2 : x / y * y = y * (x / y) := Int.mul_comm _ _
  omega
-- the places of locals and of the stack
def mv_got : Option mv_V → (mv_V → Prop) → Prop
  | none, _ => False
  | some v, k => k v
def mv_get : mv_L → Nat → (mv_V → Prop) → Prop
  | [], _, _ => False
  | o :: _, 0, k => mv_got o k
  | _ :: L, n + 1, k => mv_get L n k
def mv_set : mv_L → Nat → mv_V → (mv_L → Prop) → Prop
  | [], _, _, _ => False
  | _ :: L, 0, v, k => k (some v :: L)
  | x :: L, n + 1, v, k => mv_set L n v (fun L' => k (x :: L'))
theorem mv_get_at : ∀ {L : mv_L} {i : Nat} {k : mv_V → Prop}, mv_get L i k → ∃ v, L[i]? = some (some v) ∧ k v
  | [], _, _, h => h.elim
  | none :: _, 0, _, h => (show False from h).elim
  | some v :: _, 0, _, h => ⟨v, rfl, h⟩
  | _ :: L, n + 1, k, h => mv_get_at (L := L) h
theorem mv_set_at : ∀ {L : mv_L} {i : Nat} {v : mv_V} {k : mv_L → Prop}, mv_set L i v k → i < L.length ∧ k (L.set i (some v))
  | [], _, _, _, h => h.elim
  | _ :: L, 0, _, _, h => ⟨by simp, h⟩
  | x :: L, n + 1, v, k, h => by
    have := mv_set_at (L := L) (k := fun L' => k (x :: L')) h
    exact ⟨by simp; exact this.1, this.2⟩
def mv_tb : List Cond := lw_tbl.filter goodWord
def mv_nest : List (String × Nat × MethodName) := [("QuoteGrid$Content", 27, ⟨"QuoteGrid$Article", "<init>", "()V"⟩), ("QuoteGrid$Content", 28, ⟨"QuoteGrid$Quote", "<init>", "()V"⟩), ("QuoteGrid", 25, ⟨"QuoteGrid$Reader", "<init>", "()V"⟩), ("QuoteGrid$Reader", 11, ⟨"QuoteGrid$Text", "<init>", "()V"⟩), ("QuoteGrid", 37, ⟨"QuoteGrid$Trial", "<init>", "()V"⟩), ("QuoteGrid$Layout", 21, ⟨"QuoteGrid$Flow", "<init>", "()V"⟩), ("QuoteGrid$Content", 49, ⟨"QuoteGrid", "isWithin", "(III)Z"⟩), ("QuoteGrid$Layout", 81, ⟨"QuoteGrid", "moduleAt", "(III)I"⟩), ("QuoteGrid$Flow", 45, ⟨"QuoteGrid", "pageOf", "(I)I"⟩), ("QuoteGrid$Quote", 37, ⟨"QuoteGrid", "pageOf", "(I)I"⟩), ("QuoteGrid$Quote", 41, ⟨"QuoteGrid", "columnOf", "(I)I"⟩), ("QuoteGrid$Quote", 44, ⟨"QuoteGrid", "rowOf", "(I)I"⟩), ("QuoteGrid$Quote", 56, ⟨"QuoteGrid", "differenceOfRuns", "(IIII)I"⟩), ("QuoteGrid$Flow", 52, ⟨"QuoteGrid", "isWithin", "(III)Z"⟩), ("QuoteGrid$Layout", 109, ⟨"QuoteGrid", "pageOf", "(I)I"⟩), ("QuoteGrid$Trial", 113, ⟨"QuoteGrid", "isWithin", "(III)Z"⟩), ("QuoteGrid$Reader", 117, ⟨"QuoteGrid", "isWithin", "(III)Z"⟩)]
def mv_N (U : State) : Prop := ∀ q ∈ mv_nest, va_Nw (.methodLinkNest q.1 q.2.1 q.2.2 "QuoteGrid") U
theorem mv_N.warm {s U : State} (hW : s.WarmedH U.vm) (h : mv_N s) : mv_N U := fun q hq => va_Nw.warmM hW (h q hq)
theorem mv_N.same {s U : State} (hv : s.vm = U.vm) (h : mv_N s) : mv_N U := fun q hq => va_Nw.same rfl hv (h q hq)
def mv_rm (lvl : Nat) : Room := { frames := lvl + 1, cells := 0, slots := 0, locals := 40 + 30 * lvl }
def mv_Cx (cc : ByteArray) (maxL : Nat) (ret : Option FieldType) (own : String) (p : Program) (s : State) (m : MethodId) (args : Array Value) (meth : Method) (c : Code) : Prop :=
  p.tables.exec = Jvm.exec ∧ c.code = cc ∧ c.maxLocals = maxL ∧ s.vm.findClass own = some m.cls ∧ (∀ w ∈ mv_tb, w.before args s = true) ∧ meth.sig.returnType = ret ∧ meth.locks = false
def mv_Qc (ad : Nat → Nat → Nat) (D : va_G) (cA : Nat → ClassId) (Q : mv_R) : Array Value → State → Outcome → State → Prop := fun _ st oc t =>
  (∃ (v : Option mv_V) (M' : mv_M), oc = .returned (v.map (mv_tr ad)) ∧ Q v M' ∧ (∀ w, v = some w → mv_vok w) ∧ mv_Mok M' ∧ va_P D vwCl (mv_ws ad cA M') t.heap) ∧ va_F (mv_A ad) st t
def mv_St (ad : Nat → Nat → Nat) (D : va_G) (cA : Nat → ClassId) (n : Nat) (H0 : Heap) (M : mv_M) (L : mv_L) (st : List mv_V) (H : Heap) (locs : List Loc) (ls : Array Slot) : Prop :=
  va_P D vwCl (mv_ws ad cA M) H ∧ va_D (mv_A ad) (mv_ws ad cA M) ∧ va_S (mv_A ad) H0 H locs ∧ mv_F ad n ls L ∧ mv_Lok L ∧ mv_Sok st ∧ mv_Mok M
theorem mv_D_any {A : Nat → Prop} {ad : Nat → Nat → Nat} {cA : Nat → ClassId} {M M' : mv_M} (h : va_D A (mv_ws ad cA M)) : va_D A (mv_ws ad cA M') := by
  have key : ∀ (i : Nat) (q : Nat × va_E), (mv_ws ad cA M')[i]? = some q → ∃ q', (mv_ws ad cA M)[i]? = some q' ∧ q'.1 = q.1 := by
    intro i q hq
    simp only [mv_ws, List.getElem?_map] at hq ⊢
    cases hx : mv_IX[i]? with
    | none => rw [hx] at hq; cases hq
    | some x => rw [hx] at hq; cases hq; exact ⟨_, rfl, rfl⟩
  refine ⟨fun i j p q hi hj hpq => ?_, fun k q hk => ?_⟩
  · obtain ⟨p', h1, e1⟩ := key i p hi
    obtain ⟨q', h2, e2⟩ := key j q hj
    exact h.1 i j p' q' h1 h2 (by rw [e1, e2]; exact hpq)
  · obtain ⟨q', h1, e1⟩ := key k q hk
    rw [← e1]; exact h.2 k q' h1
/-- an operator is sound at a pc of a method -/
def mv_Snd (cc : ByteArray) (maxL : Nat) (ret : Option FieldType) (own : String) (lvl : Nat) (pc : Nat) (op : mv_O) : Prop :=
  ∀ (p : Program) (l : Launch) (e : Env) (s : State) (m : MethodId) (args : Array Value) (below : List Frame) (meth : Method) (c : Code) (ad : Nat → Nat → Nat) (D : va_G) (cA : Nat → ClassId) (K : mv_K) (Q : mv_R) (L : mv_L) (st : List mv_V) (M : mv_M) (H : Heap) (locs : List Loc) (ls : Array Slot),
    mv_Cx cc maxL ret own p s m args meth c → va_K D vwCl (mv_tys cA) s → mv_N s → op K Q L st M → mv_St ad D cA maxL s.heap M L st H locs ls →
    (∀ (pc' : Nat) (L' : mv_L) (st' : List mv_V) (M' : mv_M) (H' : Heap) (locs' : List Loc) (ls' : Array Slot), K pc' L' st' M' → mv_St ad D cA maxL s.heap M' L' st' H' locs' ls' →
      W p l e (mv_rm lvl) s m args below meth c H' locs' 0 0 (MQ below (mv_Qc ad D cA Q) args s 0 0 (mv_A ad)) (F0 m pc' ls' (st'.map (mv_tr ad)))) →
    W p l e (mv_rm lvl) s m args below meth c H locs 0 0 (MQ below (mv_Qc ad D cA Q) args s 0 0 (mv_A ad)) (F0 m pc ls (st.map (mv_tr ad)))
-- the plain operators
def mo_no : mv_O := fun _ _ _ _ _ => False
def mo_const (z : Int) (nx : Nat) : mv_O := fun K _ L st M => K nx L (.inl z :: st) M
def mo_iload (i nx : Nat) : mv_O := fun K _ L st M => mv_get L i (fun v => match v with
  | .inl x => K nx L (.inl x :: st) M
  | .inr _ => False)
def mo_aload (i nx : Nat) : mv_O := fun K _ L st M => mv_get L i (fun v => match v with
  | .inr (t, j) => K nx L (.inr (t, j) :: st) M
  | .inl _ => False)
def mo_istore (i nx : Nat) : mv_O := fun K _ L st M => match st with
  | .inl x :: st' => mv_set L i (.inl x) (fun L' => K nx L' st' M)
  | _ => False
def mo_astore (i nx : Nat) : mv_O := fun K _ L st M => match st with
  | .inr (t, j) :: st' => mv_set L i (.inr (t, j)) (fun L' => K nx L' st' M)
  | _ => False
def mo_iinc (i : Nat) (d : Int) (nx : Nat) : mv_O := fun K _ L st M => mv_get L i (fun v => match v with
  | .inl x => (-2147483648 ≤ x + d ∧ x + d ≤ 2147483647) ∧ mv_set L i (.inl (x + d)) (fun L' => K nx L' st M)
  | .inr _ => False)
def mo_iadd (nx : Nat) : mv_O := fun K _ L st M => match st with
  | .inl y :: .inl x :: st' => (-2147483648 ≤ x + y ∧ x + y ≤ 2147483647) ∧ K nx L (.inl (x + y) :: st') M
  | _ => False
def mo_isub (nx : Nat) : mv_O := fun K _ L st M => match st with
  | .inl y :: .inl x :: st' => (-2147483648 ≤ x - y ∧ x - y ≤ 2147483647) ∧ K nx L (.inl (x - y) :: st') M
  | _ => False
def mo_imul (nx : Nat) : mv_O := fun K _ L st M => match st with
  | .inl y :: .inl x :: st' => (-2147483648 ≤ x * y ∧ x * y ≤ 2147483647) ∧ K nx L (.inl (x * y) :: st') M
  | _ => False
def mo_idiv (nx : Nat) : mv_O := fun K _ L st M => match st with
  | .inl y :: .inl x :: st' => (0 ≤ x ∧ 0 < y) ∧ K nx L (.inl (x / y) :: st') M
  | _ => False
def mo_irem (nx : Nat) : mv_O := fun K _ L st M => match st with
  | .inl y :: .inl x :: st' => (0 ≤ x ∧ 0 < y) ∧ K nx L (.inl (x % y) :: st') M
  | _ => False
def mo_ineg (nx : Nat) : mv_O := fun K _ L st M => match st with
  | .inl x :: st' => (-2147483648 ≤ -x ∧ -x ≤ 2147483647) ∧ K nx L (.inl (-x) :: st') M
  | _ => False
def mo_dup (nx : Nat) : mv_O := fun K _ L st M => match st with
  | v :: st' => K nx L (v :: v :: st') M
  | _ => False
def mo_pop (nx : Nat) : mv_O := fun K _ L st M => match st with
  | _ :: st' => K nx L st' M
  | _ => False
def mo_dup2 (nx : Nat) : mv_O := fun K _ L st M => match st with
  | v :: w :: st' => K nx L (v :: w :: v :: w :: st') M
  | _ => False
def mo_goto (tg : Nat) : mv_O := fun K _ L st M => K tg L st M
def mo_ifeq (tg nx : Nat) : mv_O := fun K _ L st M => match st with
  | .inl x :: st' => (x = 0 → K tg L st' M) ∧ (¬ x = 0 → K nx L st' M)
  | _ => False
def mo_ifne (tg nx : Nat) : mv_O := fun K _ L st M => match st with
  | .inl x :: st' => (¬ x = 0 → K tg L st' M) ∧ (x = 0 → K nx L st' M)
  | _ => False
def mo_iflt (tg nx : Nat) : mv_O := fun K _ L st M => match st with
  | .inl x :: st' => (x < 0 → K tg L st' M) ∧ (0 ≤ x → K nx L st' M)
  | _ => False
def mo_ifge (tg nx : Nat) : mv_O := fun K _ L st M => match st with
  | .inl x :: st' => (0 ≤ x → K tg L st' M) ∧ (x < 0 → K nx L st' M)
  | _ => False
def mo_ifle (tg nx : Nat) : mv_O := fun K _ L st M => match st with
  | .inl x :: st' => (x ≤ 0 → K tg L st' M) ∧ (0 < x → K nx L st' M)
  | _ => False
def mo_ceq (tg nx : Nat) : mv_O := fun K _ L st M => match st with
  | .inl y :: .inl x :: st' => (x = y → K tg L st' M) ∧ (¬ x = y → K nx L st' M)
  | _ => False
def mo_cne (tg nx : Nat) : mv_O := fun K _ L st M => match st with
  | .inl y :: .inl x :: st' => (¬ x = y → K tg L st' M) ∧ (x = y → K nx L st' M)
  | _ => False
def mo_clt (tg nx : Nat) : mv_O := fun K _ L st M => match st with
  | .inl y :: .inl x :: st' => (x < y → K tg L st' M) ∧ (y ≤ x → K nx L st' M)
  | _ => False
def mo_cge (tg nx : Nat) : mv_O := fun K _ L st M => match st with
  | .inl y :: .inl x :: st' => (y ≤ x → K tg L st' M) ∧ (x < y → K nx L st' M)
  | _ => False
def mo_cgt (tg nx : Nat) : mv_O := fun K _ L st M => match st with
  | .inl y :: .inl x :: st' => (y < x → K tg L st' M) ∧ (x ≤ y → K nx L st' M)
  | _ => False
def mo_cle (tg nx : Nat) : mv_O := fun K _ L st M => match st with
  | .inl y :: .inl x :: st' => (x ≤ y → K tg L st' M) ∧ (y < x → K nx L st' M)
  | _ => False
def mv_tsw : Int → List Nat → Int → (Nat → Prop) → Prop
  | _, [], _, _ => True
  | lo, t :: ts, x, k => (x = lo → k t) ∧ mv_tsw (lo + 1) ts x k
def mo_tsw (lo : Int) (tgs : List Nat) (df : Nat) : mv_O := fun K _ L st M => match st with
  | .inl x :: st' => ((x < lo ∨ lo + (tgs.length : Int) ≤ x) → K df L st' M) ∧ mv_tsw lo tgs x (fun t => K t L st' M)
  | _ => False
def mo_iret : mv_O := fun _ Q _ st M => match st with
  | [.inl x] => Q (some (.inl x)) M
  | _ => False
def mo_zret : mv_O := fun _ Q _ st M => match st with
  | [.inl x] => (x = 0 ∨ x = 1) ∧ Q (some (.inl x)) M
  | _ => False
def mo_aret : mv_O := fun _ Q _ st M => match st with
  | [.inr (t, j)] => Q (some (.inr (t, j))) M
  | _ => False
def mo_vret : mv_O := fun _ Q _ st M => match st with
  | [] => Q none M
  | _ => False
section MVS
variable {cc : ByteArray} {maxL : Nat} {ret : Option FieldType} {own : String} {lvl pc : Nat}
theorem ms_no : mv_Snd cc maxL ret own lvl pc mo_no := fun _ _ _ _ _ _ _ _ _ _ _ _ _ _ _ _ _ _ _ _ _ _ _ h => h.elim
theorem ms_iconst {n : Int} (hd : decode cc pc = .ok (.iconst n, 1)) (hn : -2147483648 ≤ n ∧ n ≤ 2147483647) : mv_Snd cc maxL ret own lvl pc (mo_const n (pc + 1)) := by
  intro p l e s m args below meth c ad D cA K Q L st M H locs ls C hK hN h S k
  exact lv_iconst C.1 C.2.1 hd rfl (k _ _ _ _ _ _ _ h ⟨S.1, S.2.1, S.2.2.1, S.2.2.2.1, S.2.2.2.2.1, S.2.2.2.2.2.1.cons hn, S.2.2.2.2.2.2⟩)
theorem ms_bipush {n : Int} (hd : decode cc pc = .ok (.bipush n, 2)) (hv : (Int8.ofInt n).toInt32 = Int32.ofInt n) (hn : -2147483648 ≤ n ∧ n ≤ 2147483647) : mv_Snd cc maxL ret own lvl pc (mo_const n (pc + 2)) := by
  intro p l e s m args below meth c ad D cA K Q L st M H locs ls C hK hN h S k
  exact lv_bipush C.1 C.2.1 hd hv (k _ _ _ _ _ _ _ h ⟨S.1, S.2.1, S.2.2.1, S.2.2.2.1, S.2.2.2.2.1, S.2.2.2.2.2.1.cons hn, S.2.2.2.2.2.2⟩)
theorem ms_sipush {n : Int} (hd : decode cc pc = .ok (.sipush n, 3)) (hv : (Int16.ofInt n).toInt32 = Int32.ofInt n) (hn : -2147483648 ≤ n ∧ n ≤ 2147483647) : mv_Snd cc maxL ret own lvl pc (mo_const n (pc + 3)) := by
  intro p l e s m args below meth c ad D cA K Q L st M H locs ls C hK hN h S k
  exact lv_sipush C.1 C.2.1 hd hv (k _ _ _ _ _ _ _ h ⟨S.1, S.2.1, S.2.2.1, S.2.2.2.1, S.2.2.2.2.1, S.2.2.2.2.2.1.cons hn, S.2.2.2.2.2.2⟩)
theorem ms_ldc {idx : Nat} {n : Int} (hd : decode cc pc = .ok (.ldc idx, 2)) (hw : Cond.constant own idx (Int32.ofInt n) ∈ mv_tb) (hn : -2147483648 ≤ n ∧ n ≤ 2147483647) : mv_Snd cc maxL ret own lvl pc (mo_const n (pc + 2)) := by
  intro p l e s m args below meth c ad D cA K Q L st M H locs ls C hK hN h S k
  exact lv_ldc C.1 C.2.1 C.2.2.2.1 (C.2.2.2.2.1 _ hw) hd (k _ _ _ _ _ _ _ h ⟨S.1, S.2.1, S.2.2.1, S.2.2.2.1, S.2.2.2.2.1, S.2.2.2.2.2.1.cons hn, S.2.2.2.2.2.2⟩)
theorem ms_iload_n {q : Fin 4} {i : Nat} (hd : decode cc pc = .ok (.iload_n q, 1)) (hi : (q : Nat) = i) : mv_Snd cc maxL ret own lvl pc (mo_iload i (pc + 1)) := by
  intro p l e s m args below meth c ad D cA K Q L st M H locs ls C hK hN h S k
  obtain ⟨v, hv, h⟩ := mv_get_at h
  rcases v with x | ⟨t, j⟩
  · exact lv_iload_n C.1 C.2.1 hd hi (S.2.2.2.1.at hv) (k _ _ _ _ _ _ _ h ⟨S.1, S.2.1, S.2.2.1, S.2.2.2.1, S.2.2.2.2.1, S.2.2.2.2.2.1.cons (S.2.2.2.2.1 _ _ hv), S.2.2.2.2.2.2⟩)
  · exact h.elim
theorem ms_iload {i : Nat} (hd : decode cc pc = .ok (.iload i, 2)) : mv_Snd cc maxL ret own lvl pc (mo_iload i (pc + 2)) := by
  intro p l e s m args below meth c ad D cA K Q L st M H locs ls C hK hN h S k
  obtain ⟨v, hv, h⟩ := mv_get_at h
  rcases v with x | ⟨t, j⟩
  · exact lv_iload C.1 C.2.1 hd (S.2.2.2.1.at hv) (k _ _ _ _ _ _ _ h ⟨S.1, S.2.1, S.2.2.1, S.2.2.2.1, S.2.2.2.2.1, S.2.2.2.2.2.1.cons (S.2.2.2.2.1 _ _ hv), S.2.2.2.2.2.2⟩)
  · exact h.elim
theorem ms_aload_n {q : Fin 4} {i : Nat} (hd : decode cc pc = .ok (.aload_n q, 1)) (hi : (q : Nat) = i) : mv_Snd cc maxL ret own lvl pc (mo_aload i (pc + 1)) := by
  intro p l e s m args below meth c ad D cA K Q L st M H locs ls C hK hN h S k
  obtain ⟨v, hv, h⟩ := mv_get_at h
  rcases v with x | ⟨t, j⟩
  · exact h.elim
  · exact lv_aload_n C.1 C.2.1 hd hi (S.2.2.2.1.at hv) (k _ _ _ _ _ _ _ h ⟨S.1, S.2.1, S.2.2.1, S.2.2.2.1, S.2.2.2.2.1, S.2.2.2.2.2.1.cons (S.2.2.2.2.1 _ _ hv), S.2.2.2.2.2.2⟩)
theorem ms_aload {i : Nat} (hd : decode cc pc = .ok (.aload i, 2)) : mv_Snd cc maxL ret own lvl pc (mo_aload i (pc + 2)) := by
  intro p l e s m args below meth c ad D cA K Q L st M H locs ls C hK hN h S k
  obtain ⟨v, hv, h⟩ := mv_get_at h
  rcases v with x | ⟨t, j⟩
  · exact h.elim
  · exact lv_aload C.1 C.2.1 hd (S.2.2.2.1.at hv) (k _ _ _ _ _ _ _ h ⟨S.1, S.2.1, S.2.2.1, S.2.2.2.1, S.2.2.2.2.1, S.2.2.2.2.2.1.cons (S.2.2.2.2.1 _ _ hv), S.2.2.2.2.2.2⟩)
theorem ms_istore_n {q : Fin 4} {i : Nat} (hd : decode cc pc = .ok (.istore_n q, 1)) (hi : (q : Nat) = i) : mv_Snd cc maxL ret own lvl pc (mo_istore i (pc + 1)) := by
  intro p l e s m args below meth c ad D cA K Q L st M H locs ls C hK hN h S k
  match st, h, S with
  | .inl x :: st', h, S =>
    obtain ⟨hl, h⟩ := mv_set_at h
    refine lv_istore_n C.1 C.2.1 hd hi S.2.2.2.1.1 (Nat.lt_of_lt_of_le hl S.2.2.2.1.2) rfl (fun ls' hl' => ?_)
    exact k _ _ _ _ _ _ _ h ⟨S.1, S.2.1, S.2.2.1, S.2.2.2.1.put (v := .inl x) hl', S.2.2.2.2.1.set S.2.2.2.2.2.1.hd, S.2.2.2.2.2.1.tl, S.2.2.2.2.2.2⟩
theorem ms_istore {i : Nat} (hd : decode cc pc = .ok (.istore i, 2)) : mv_Snd cc maxL ret own lvl pc (mo_istore i (pc + 2)) := by
  intro p l e s m args below meth c ad D cA K Q L st M H locs ls C hK hN h S k
  match st, h, S with
  | .inl x :: st', h, S =>
    obtain ⟨hl, h⟩ := mv_set_at h
    refine lv_istore C.1 C.2.1 hd S.2.2.2.1.1 (Nat.lt_of_lt_of_le hl S.2.2.2.1.2) rfl (fun ls' hl' => ?_)
    exact k _ _ _ _ _ _ _ h ⟨S.1, S.2.1, S.2.2.1, S.2.2.2.1.put (v := .inl x) hl', S.2.2.2.2.1.set S.2.2.2.2.2.1.hd, S.2.2.2.2.2.1.tl, S.2.2.2.2.2.2⟩
theorem ms_astore_n {q : Fin 4} {i : Nat} (hd : decode cc pc = .ok (.astore_n q, 1)) (hi : (q : Nat) = i) : mv_Snd cc maxL ret own lvl pc (mo_astore i (pc + 1)) := by
  intro p l e s m args below meth c ad D cA K Q L st M H locs ls C hK hN h S k
  match st, h, S with
  | .inr (t, j) :: st', h, S =>
    obtain ⟨hl, h⟩ := mv_set_at h
    refine lv_astore_n C.1 C.2.1 hd hi S.2.2.2.1.1 (Nat.lt_of_lt_of_le hl S.2.2.2.1.2) rfl (fun ls' hl' => ?_)
    exact k _ _ _ _ _ _ _ h ⟨S.1, S.2.1, S.2.2.1, S.2.2.2.1.put (v := .inr (t, j)) hl', S.2.2.2.2.1.set S.2.2.2.2.2.1.hd, S.2.2.2.2.2.1.tl, S.2.2.2.2.2.2⟩
theorem ms_astore {i : Nat} (hd : decode cc pc = .ok (.astore i, 2)) : mv_Snd cc maxL ret own lvl pc (mo_astore i (pc + 2)) := by
  intro p l e s m args below meth c ad D cA K Q L st M H locs ls C hK hN h S k
  match st, h, S with
  | .inr (t, j) :: st', h, S =>
    obtain ⟨hl, h⟩ := mv_set_at h
    refine lv_astore C.1 C.2.1 hd S.2.2.2.1.1 (Nat.lt_of_lt_of_le hl S.2.2.2.1.2) rfl (fun ls' hl' => ?_)
    exact k _ _ _ _ _ _ _ h ⟨S.1, S.2.1, S.2.2.1, S.2.2.2.1.put (v := .inr (t, j)) hl', S.2.2.2.2.1.set S.2.2.2.2.2.1.hd, S.2.2.2.2.2.1.tl, S.2.2.2.2.2.2⟩
theorem ms_iinc {i : Nat} {n : Int} (hd : decode cc pc = .ok (.iinc i n, 3)) : mv_Snd cc maxL ret own lvl pc (mo_iinc i n (pc + 3)) := by
  intro p l e s m args below meth c ad D cA K Q L st M H locs ls C hK hN h S k
  obtain ⟨v, hv, h⟩ := mv_get_at h
  rcases v with x | ⟨t, j⟩
  · obtain ⟨hr, h⟩ := h
    obtain ⟨hl, h⟩ := mv_set_at h
    obtain ⟨q, hq⟩ := List.getElem?_of_mem (mv_pr_mem.mpr ⟨_, hv, rfl⟩ : (i, mv_tr ad (.inl x)) ∈ mv_pr ad L)
    refine lv_iinc (x := Int32.ofInt x) C.1 C.2.1 hd S.2.2.2.1.1 hq (mv_add x n) (Nat.lt_of_lt_of_le hl S.2.2.2.1.2) rfl (fun ls' hl' => ?_)
    exact k _ _ _ _ _ _ _ h ⟨S.1, S.2.1, S.2.2.1, S.2.2.2.1.put (v := .inl (x + n)) hl', S.2.2.2.2.1.set hr, S.2.2.2.2.2.1, S.2.2.2.2.2.2⟩
  · exact h.elim
theorem ms_iadd (hd : decode cc pc = .ok (.iadd, 1)) : mv_Snd cc maxL ret own lvl pc (mo_iadd (pc + 1)) := by
  intro p l e s m args below meth c ad D cA K Q L st M H locs ls C hK hN h S k
  match st, h, S with
  | .inl y :: .inl x :: st', h, S =>
    refine lv_iadd C.1 C.2.1 hd ?_
    rw [mv_add]
    exact k _ _ _ _ _ _ _ h.2 ⟨S.1, S.2.1, S.2.2.1, S.2.2.2.1, S.2.2.2.2.1, S.2.2.2.2.2.1.tl.tl.cons h.1, S.2.2.2.2.2.2⟩
theorem ms_isub (hd : decode cc pc = .ok (.isub, 1)) : mv_Snd cc maxL ret own lvl pc (mo_isub (pc + 1)) := by
  intro p l e s m args below meth c ad D cA K Q L st M H locs ls C hK hN h S k
  match st, h, S with
  | .inl y :: .inl x :: st', h, S =>
    refine lv_isub C.1 C.2.1 hd ?_
    rw [mv_sub]
    exact k _ _ _ _ _ _ _ h.2 ⟨S.1, S.2.1, S.2.2.1, S.2.2.2.1, S.2.2.2.2.1, S.2.2.2.2.2.1.tl.tl.cons h.1, S.2.2.2.2.2.2⟩
theorem ms_imul (hd : decode cc pc = .ok (.imul, 1)) : mv_Snd cc maxL ret own lvl pc (mo_imul (pc + 1)) := by
  intro p l e s m args below meth c ad D cA K Q L st M H locs ls C hK hN h S k
  match st, h, S with
  | .inl y :: .inl x :: st', h, S =>
    refine lv_imul C.1 C.2.1 hd ?_
    rw [mv_mul]
    exact k _ _ _ _ _ _ _ h.2 ⟨S.1, S.2.1, S.2.2.1, S.2.2.2.1, S.2.2.2.2.1, S.2.2.2.2.2.1.tl.tl.cons h.1, S.2.2.2.2.2.2⟩
theorem ms_idiv (hd : decode cc pc = .ok (.idiv, 1)) : mv_Snd cc maxL ret own lvl pc (mo_idiv (pc + 1)) := by
  intro p l e s m args below meth c ad D cA K Q L st M H locs ls C hK hN h S k
  match st, h, S with
  | .inl y :: .inl x :: st', h, S =>
    have hy := S.2.2.2.2.2.1.hd
    have hx := S.2.2.2.2.2.1.tl.hd
    have hq : 0 ≤ x / y ∧ x / y ≤ x := ⟨Int.ediv_nonneg h.1.1 (by have := h.1.2; omega), Int.ediv_le_self y h.1.1⟩
    have hx2 : x ≤ 2147483647 := hx.2
    refine lv_idiv C.1 C.2.1 hd (fun e0 => ?_) ?_
    · have := (mv_ieq hy mv_r0).mp e0
      have := h.1.2
      omega
    · rw [mv_div ⟨h.1.1, hx.2⟩ ⟨h.1.2, hy.2⟩]
      exact k _ _ _ _ _ _ _ h.2 ⟨S.1, S.2.1, S.2.2.1, S.2.2.2.1, S.2.2.2.2.1, S.2.2.2.2.2.1.tl.tl.cons (show _ ∧ _ from ⟨by omega, by omega⟩), S.2.2.2.2.2.2⟩
theorem ms_irem (hd : decode cc pc = .ok (.irem, 1)) : mv_Snd cc maxL ret own lvl pc (mo_irem (pc + 1)) := by
  intro p l e s m args below meth c ad D cA K Q L st M H locs ls C hK hN h S k
  match st, h, S with
  | .inl y :: .inl x :: st', h, S =>
    have hy := S.2.2.2.2.2.1.hd
    have hx := S.2.2.2.2.2.1.tl.hd
    have hy2 : y ≤ 2147483647 := hy.2
    have hq : 0 ≤ x % y ∧ x % y < y := ⟨Int.emod_nonneg _ (by have := h.1.2; omega), Int.emod_lt_of_pos _ h.1.2⟩
    refine lv_irem C.1 C.2.1 hd (fun e0 => ?_) ?_
    · have := (mv_ieq hy mv_r0).mp e0
      have := h.1.2
      omega
    · rw [mv_rem ⟨h.1.1, hx.2⟩ ⟨h.1.2, hy.2⟩]
      exact k _ _ _ _ _ _ _ h.2 ⟨S.1, S.2.1, S.2.2.1, S.2.2.2.1, S.2.2.2.2.1, S.2.2.2.2.2.1.tl.tl.cons (show _ ∧ _ from ⟨by omega, by omega⟩), S.2.2.2.2.2.2⟩
theorem ms_ineg (hd : decode cc pc = .ok (.ineg, 1)) : mv_Snd cc maxL ret own lvl pc (mo_ineg (pc + 1)) := by
  intro p l e s m args below meth c ad D cA K Q L st M H locs ls C hK hN h S k
  match st, h, S with
  | .inl x :: st', h, S =>
    refine lv_ineg C.1 C.2.1 hd ?_
    rw [mv_neg]
    exact k _ _ _ _ _ _ _ h.2 ⟨S.1, S.2.1, S.2.2.1, S.2.2.2.1, S.2.2.2.2.1, S.2.2.2.2.2.1.tl.cons h.1, S.2.2.2.2.2.2⟩
theorem ms_dup (hd : decode cc pc = .ok (.dup, 1)) : mv_Snd cc maxL ret own lvl pc (mo_dup (pc + 1)) := by
  intro p l e s m args below meth c ad D cA K Q L st M H locs ls C hK hN h S k
  match st, h, S with
  | v :: st', h, S =>
    exact lv_dup C.1 C.2.1 hd (mv_tr_cat ad v) (k _ _ _ _ _ _ _ h ⟨S.1, S.2.1, S.2.2.1, S.2.2.2.1, S.2.2.2.2.1, S.2.2.2.2.2.1.cons S.2.2.2.2.2.1.hd, S.2.2.2.2.2.2⟩)
theorem ms_pop (hd : decode cc pc = .ok (.pop, 1)) : mv_Snd cc maxL ret own lvl pc (mo_pop (pc + 1)) := by
  intro p l e s m args below meth c ad D cA K Q L st M H locs ls C hK hN h S k
  match st, h, S with
  | v :: st', h, S =>
    exact lv_pop C.1 C.2.1 hd (mv_tr_cat ad v) (k _ _ _ _ _ _ _ h ⟨S.1, S.2.1, S.2.2.1, S.2.2.2.1, S.2.2.2.2.1, S.2.2.2.2.2.1.tl, S.2.2.2.2.2.2⟩)
theorem ms_dup2 (hd : decode cc pc = .ok (.dup2, 1)) : mv_Snd cc maxL ret own lvl pc (mo_dup2 (pc + 1)) := by
  intro p l e s m args below meth c ad D cA K Q L st M H locs ls C hK hN h S k
  match st, h, S with
  | v :: w :: st', h, S =>
    exact lv_dup2_11 C.1 C.2.1 hd (mv_tr_cat ad v) (mv_tr_cat ad w) (k _ _ _ _ _ _ _ h ⟨S.1, S.2.1, S.2.2.1, S.2.2.2.1, S.2.2.2.2.1, (S.2.2.2.2.2.1.cons S.2.2.2.2.2.1.tl.hd).cons S.2.2.2.2.2.1.hd, S.2.2.2.2.2.2⟩)
theorem ms_goto {off : Int} {tg : Nat} (hd : decode cc pc = .ok (.goto off, 3)) (ht : (pc : Int) + off = (tg : Int)) : mv_Snd cc maxL ret own lvl pc (mo_goto tg) := by
  intro p l e s m args below meth c ad D cA K Q L st M H locs ls C hK hN h S k
  exact lv_goto C.1 C.2.1 hd ht (k _ _ _ _ _ _ _ h S)
theorem ms_ifeq {off : Int} {tg : Nat} (hd : decode cc pc = .ok (.ifCond .eq off, 3)) (ht : (pc : Int) + off = (tg : Int)) : mv_Snd cc maxL ret own lvl pc (mo_ifeq tg (pc + 3)) := by
  intro p l e s m args below meth c ad D cA K Q L st M H locs ls C hK hN h S k
  match st, h, S with
  | .inl x :: st', h, S =>
    have hx := S.2.2.2.2.2.1.hd
    have S' : mv_St ad D cA maxL s.heap M L st' H locs ls := ⟨S.1, S.2.1, S.2.2.1, S.2.2.2.1, S.2.2.2.2.1, S.2.2.2.2.2.1.tl, S.2.2.2.2.2.2⟩
    exact lv_if_eq C.1 C.2.1 hd ht (fun q => k _ _ _ _ _ _ _ (h.1 ((mv_ieq hx mv_r0).mp q)) S') (fun q => k _ _ _ _ _ _ _ (h.2 (fun z => q ((mv_ieq hx mv_r0).mpr z))) S')
theorem ms_ifne {off : Int} {tg : Nat} (hd : decode cc pc = .ok (.ifCond .ne off, 3)) (ht : (pc : Int) + off = (tg : Int)) : mv_Snd cc maxL ret own lvl pc (mo_ifne tg (pc + 3)) := by
  intro p l e s m args below meth c ad D cA K Q L st M H locs ls C hK hN h S k
  match st, h, S with
  | .inl x :: st', h, S =>
    have hx := S.2.2.2.2.2.1.hd
    have S' : mv_St ad D cA maxL s.heap M L st' H locs ls := ⟨S.1, S.2.1, S.2.2.1, S.2.2.2.1, S.2.2.2.2.1, S.2.2.2.2.2.1.tl, S.2.2.2.2.2.2⟩
    exact lv_if_ne C.1 C.2.1 hd ht (fun q => k _ _ _ _ _ _ _ (h.1 (fun z => q ((mv_ieq hx mv_r0).mpr z))) S') (fun q => k _ _ _ _ _ _ _ (h.2 ((mv_ieq hx mv_r0).mp q)) S')
theorem ms_iflt {off : Int} {tg : Nat} (hd : decode cc pc = .ok (.ifCond .lt off, 3)) (ht : (pc : Int) + off = (tg : Int)) : mv_Snd cc maxL ret own lvl pc (mo_iflt tg (pc + 3)) := by
  intro p l e s m args below meth c ad D cA K Q L st M H locs ls C hK hN h S k
  match st, h, S with
  | .inl x :: st', h, S =>
    have hx := S.2.2.2.2.2.1.hd
    have S' : mv_St ad D cA maxL s.heap M L st' H locs ls := ⟨S.1, S.2.1, S.2.2.1, S.2.2.2.1, S.2.2.2.2.1, S.2.2.2.2.2.1.tl, S.2.2.2.2.2.2⟩
    exact lv_if_lt C.1 C.2.1 hd ht (fun q => k _ _ _ _ _ _ _ (h.1 ((mv_ilt hx mv_r0).mp q)) S') (fun q => k _ _ _ _ _ _ _ (h.2 (Int.not_lt.mp fun z => q ((mv_ilt hx mv_r0).mpr z))) S')
theorem ms_ifge {off : Int} {tg : Nat} (hd : decode cc pc = .ok (.ifCond .ge off, 3)) (ht : (pc : Int) + off = (tg : Int)) : mv_Snd cc maxL ret own lvl pc (mo_ifge tg (pc + 3)) := by
  intro p l e s m args below meth c ad D cA K Q L st M H locs ls C hK hN h S k
  match st, h, S with
  | .inl x :: st', h, S =>
    have hx := S.2.2.2.2.2.1.hd
    have S' : mv_St ad D cA maxL s.heap M L st' H locs ls := ⟨S.1, S.2.1, S.2.2.1, S.2.2.2.1, S.2.2.2.2.1, S.2.2.2.2.2.1.tl, S.2.2.2.2.2.2⟩
    exact lv_if_ge C.1 C.2.1 hd ht (fun q => k _ _ _ _ _ _ _ (h.1 ((mv_ile mv_r0 hx).mp q)) S') (fun q => k _ _ _ _ _ _ _ (h.2 (Int.not_le.mp fun z => q ((mv_ile mv_r0 hx).mpr z))) S')
theorem ms_ifle {off : Int} {tg : Nat} (hd : decode cc pc = .ok (.ifCond .le off, 3)) (ht : (pc : Int) + off = (tg : Int)) : mv_Snd cc maxL ret own lvl pc (mo_ifle tg (pc + 3)) := by
  intro p l e s m args below meth c ad D cA K Q L st M H locs ls C hK hN h S k
  match st, h, S with
  | .inl x :: st', h, S =>
    have hx := S.2.2.2.2.2.1.hd
    have S' : mv_St ad D cA maxL s.heap M L st' H locs ls := ⟨S.1, S.2.1, S.2.2.1, S.2.2.2.1, S.2.2.2.2.1, S.2.2.2.2.2.1.tl, S.2.2.2.2.2.2⟩
    exact lv_if_le C.1 C.2.1 hd ht (fun q => k _ _ _ _ _ _ _ (h.1 ((mv_ile hx mv_r0).mp q)) S') (fun q => k _ _ _ _ _ _ _ (h.2 (Int.not_le.mp fun z => q ((mv_ile hx mv_r0).mpr z))) S')
theorem ms_ceq {off : Int} {tg : Nat} (hd : decode cc pc = .ok (.if_icmp .eq off, 3)) (ht : (pc : Int) + off = (tg : Int)) : mv_Snd cc maxL ret own lvl pc (mo_ceq tg (pc + 3)) := by
  intro p l e s m args below meth c ad D cA K Q L st M H locs ls C hK hN h S k
  match st, h, S with
  | .inl y :: .inl x :: st', h, S =>
    have hy := S.2.2.2.2.2.1.hd
    have hx := S.2.2.2.2.2.1.tl.hd
    have S' : mv_St ad D cA maxL s.heap M L st' H locs ls := ⟨S.1, S.2.1, S.2.2.1, S.2.2.2.1, S.2.2.2.2.1, S.2.2.2.2.2.1.tl.tl, S.2.2.2.2.2.2⟩
    exact lv_icmp_eq C.1 C.2.1 hd ht (fun q => k _ _ _ _ _ _ _ (h.1 ((mv_ieq hx hy).mp q)) S') (fun q => k _ _ _ _ _ _ _ (h.2 (fun z => q ((mv_ieq hx hy).mpr z))) S')
theorem ms_cne {off : Int} {tg : Nat} (hd : decode cc pc = .ok (.if_icmp .ne off, 3)) (ht : (pc : Int) + off = (tg : Int)) : mv_Snd cc maxL ret own lvl pc (mo_cne tg (pc + 3)) := by
  intro p l e s m args below meth c ad D cA K Q L st M H locs ls C hK hN h S k
  match st, h, S with
  | .inl y :: .inl x :: st', h, S =>
    have hy := S.2.2.2.2.2.1.hd
    have hx := S.2.2.2.2.2.1.tl.hd
    have S' : mv_St ad D cA maxL s.heap M L st' H locs ls := ⟨S.1, S.2.1, S.2.2.1, S.2.2.2.1, S.2.2.2.2.1, S.2.2.2.2.2.1.tl.tl, S.2.2.2.2.2.2⟩
    exact lv_icmp_ne C.1 C.2.1 hd ht (fun q => k _ _ _ _ _ _ _ (h.1 (fun z => q ((mv_ieq hx hy).mpr z))) S') (fun q => k _ _ _ _ _ _ _ (h.2 ((mv_ieq hx hy).mp q)) S')
theorem ms_clt {off : Int} {tg : Nat} (hd : decode cc pc = .ok (.if_icmp .lt off, 3)) (ht : (pc : Int) + off = (tg : Int)) : mv_Snd cc maxL ret own lvl pc (mo_clt tg (pc + 3)) := by
  intro p l e s m args below meth c ad D cA K Q L st M H locs ls C hK hN h S k
  match st, h, S with
  | .inl y :: .inl x :: st', h, S =>
    have hy := S.2.2.2.2.2.1.hd
    have hx := S.2.2.2.2.2.1.tl.hd
    have S' : mv_St ad D cA maxL s.heap M L st' H locs ls := ⟨S.1, S.2.1, S.2.2.1, S.2.2.2.1, S.2.2.2.2.1, S.2.2.2.2.2.1.tl.tl, S.2.2.2.2.2.2⟩
    exact lv_icmp_lt C.1 C.2.1 hd ht (fun q => k _ _ _ _ _ _ _ (h.1 ((mv_ilt hx hy).mp q)) S') (fun q => k _ _ _ _ _ _ _ (h.2 (Int.not_lt.mp fun z => q ((mv_ilt hx hy).mpr z))) S')
theorem ms_cge {off : Int} {tg : Nat} (hd : decode cc pc = .ok (.if_icmp .ge off, 3)) (ht : (pc : Int) + off = (tg : Int)) : mv_Snd cc maxL ret own lvl pc (mo_cge tg (pc + 3)) := by
  intro p l e s m args below meth c ad D cA K Q L st M H locs ls C hK hN h S k
  match st, h, S with
  | .inl y :: .inl x :: st', h, S =>
    have hy := S.2.2.2.2.2.1.hd
    have hx := S.2.2.2.2.2.1.tl.hd
    have S' : mv_St ad D cA maxL s.heap M L st' H locs ls := ⟨S.1, S.2.1, S.2.2.1, S.2.2.2.1, S.2.2.2.2.1, S.2.2.2.2.2.1.tl.tl, S.2.2.2.2.2.2⟩
    exact lv_icmp_ge C.1 C.2.1 hd ht (fun q => k _ _ _ _ _ _ _ (h.1 ((mv_ile hy hx).mp q)) S') (fun q => k _ _ _ _ _ _ _ (h.2 (Int.not_le.mp fun z => q ((mv_ile hy hx).mpr z))) S')
theorem ms_cgt {off : Int} {tg : Nat} (hd : decode cc pc = .ok (.if_icmp .gt off, 3)) (ht : (pc : Int) + off = (tg : Int)) : mv_Snd cc maxL ret own lvl pc (mo_cgt tg (pc + 3)) := by
  intro p l e s m args below meth c ad D cA K Q L st M H locs ls C hK hN h S k
  match st, h, S with
  | .inl y :: .inl x :: st', h, S =>
    have hy := S.2.2.2.2.2.1.hd
    have hx := S.2.2.2.2.2.1.tl.hd
    have S' : mv_St ad D cA maxL s.heap M L st' H locs ls := ⟨S.1, S.2.1, S.2.2.1, S.2.2.2.1, S.2.2.2.2.1, S.2.2.2.2.2.1.tl.tl, S.2.2.2.2.2.2⟩
    exact lv_icmp_gt C.1 C.2.1 hd ht (fun q => k _ _ _ _ _ _ _ (h.1 ((mv_ilt hy hx).mp q)) S') (fun q => k _ _ _ _ _ _ _ (h.2 (Int.not_lt.mp fun z => q ((mv_ilt hy hx).mpr z))) S')
theorem ms_cle {off : Int} {tg : Nat} (hd : decode cc pc = .ok (.if_icmp .le off, 3)) (ht : (pc : Int) + off = (tg : Int)) : mv_Snd cc maxL ret own lvl pc (mo_cle tg (pc + 3)) := by
  intro p l e s m args below meth c ad D cA K Q L st M H locs ls C hK hN h S k
  match st, h, S with
  | .inl y :: .inl x :: st', h, S =>
    have hy := S.2.2.2.2.2.1.hd
    have hx := S.2.2.2.2.2.1.tl.hd
    have S' : mv_St ad D cA maxL s.heap M L st' H locs ls := ⟨S.1, S.2.1, S.2.2.1, S.2.2.2.1, S.2.2.2.2.1, S.2.2.2.2.2.1.tl.tl, S.2.2.2.2.2.2⟩
    exact lv_icmp_le C.1 C.2.1 hd ht (fun q => k _ _ _ _ _ _ _ (h.1 ((mv_ile hx hy).mp q)) S') (fun q => k _ _ _ _ _ _ _ (h.2 (Int.not_le.mp fun z => q ((mv_ile hx hy).mpr z))) S')
theorem mv_tsw_at : ∀ {lo : Int} {ts : List Nat} {x : Int} {k : Nat → Prop} {t : Nat}, mv_tsw lo ts x k → lo ≤ x → ts[(x - lo).toNat]? = some t → k t
  | lo, [], x, k, t, _, _, ht => by simp at ht
  | lo, t0 :: ts, x, k, t, h, hl, ht => by
    by_cases h0 : x = lo
    · subst h0
      simp at ht
      subst ht
      exact h.1 rfl
    · have e : (x - lo).toNat = (x - (lo + 1)).toNat + 1 := by omega
      rw [e, List.getElem?_cons_succ] at ht
      exact mv_tsw_at h.2 (by omega) ht
theorem ms_tsw {df lo hi : Int} {offs : Array Int} {len dfT : Nat} {tgs : List Nat} (hd : decode cc pc = .ok (.tableswitch df lo hi offs, len)) (hdf : (pc : Int) + df = (dfT : Int)) (hhi : hi = lo + (tgs.length : Int) - 1) (hlen : offs.size = tgs.length)
    (hto : offs.toList.map (fun o => (pc : Int) + o) = tgs.map (fun t : Nat => (t : Int))) : mv_Snd cc maxL ret own lvl pc (mo_tsw lo tgs dfT) := by
  intro p l e s m args below meth c ad D cA K Q L st M H locs ls C hK hN h S k
  match st, h, S with
  | .inl x :: st', h, S =>
    have hx : (Int32.ofInt x).toInt = x := mv_toInt S.2.2.2.2.2.1.hd
    have S' : mv_St ad D cA maxL s.heap M L st' H locs ls := ⟨S.1, S.2.1, S.2.2.1, S.2.2.2.1, S.2.2.2.2.1, S.2.2.2.2.2.1.tl, S.2.2.2.2.2.2⟩
    by_cases ho : x < lo ∨ lo + (tgs.length : Int) ≤ x
    · exact lv_tableOut C.1 C.2.1 hd (by rw [hx]; omega) hdf (k _ _ _ _ _ _ _ (h.1 ho) S')
    · have hlt : (x - lo).toNat < tgs.length := by omega
      have hlo : (x - lo).toNat < offs.toList.length := by simp; omega
      have hmap := congrArg (fun l => l[(x - lo).toNat]?) hto
      simp only [List.getElem?_map, List.getElem?_eq_getElem hlo, List.getElem?_eq_getElem hlt, Option.map_some, Option.some.injEq] at hmap
      refine lv_tableIn C.1 C.2.1 (tgt := tgs[(x - lo).toNat]) (off := offs.toList[(x - lo).toNat]) hd (by rw [hx]; omega) (by rw [hx]; omega) (by rw [hx, ← Array.getElem?_toList]; exact List.getElem?_eq_getElem hlo) hmap ?_
      exact k _ _ _ _ _ _ _ (mv_tsw_at h.2 (by omega) (List.getElem?_eq_getElem hlt)) S'
theorem ms_iret (hd : decode cc pc = .ok (.ireturn, 1)) : mv_Snd cc maxL (some .int) own lvl pc mo_iret := by
  intro p l e s m args below meth c ad D cA K Q L st M H locs ls C hK hN h S k
  match st, h, S with
  | [.inl x], h, S =>
    exact W.iret C.1 C.2.1 C.2.2.2.2.2.1 (fun t ht hW => ⟨⟨some (.inl x), M, rfl, h, fun w hw => by cases hw; exact S.2.2.2.2.2.1.hd, S.2.2.2.2.2.2, by rw [ht]; exact S.1⟩, S.2.2.1.F ht⟩) S.2.2.1.2.2 hd C.2.2.2.2.2.2
theorem ms_zret (hd : decode cc pc = .ok (.ireturn, 1)) : mv_Snd cc maxL (some .boolean) own lvl pc mo_zret := by
  intro p l e s m args below meth c ad D cA K Q L st M H locs ls C hK hN h S k
  match st, h, S with
  | [.inl x], h, S =>
    exact W.zret C.1 C.2.1 C.2.2.2.2.2.1 (by rcases h.1 with rfl | rfl <;> rfl) (fun t ht hW => ⟨⟨some (.inl x), M, rfl, h.2, fun w hw => by cases hw; exact S.2.2.2.2.2.1.hd, S.2.2.2.2.2.2, by rw [ht]; exact S.1⟩, S.2.2.1.F ht⟩) S.2.2.1.2.2 hd C.2.2.2.2.2.2
theorem ms_aret {n : String} (hd : decode cc pc = .ok (.areturn, 1)) : mv_Snd cc maxL (some (.object n)) own lvl pc mo_aret := by
  intro p l e s m args below meth c ad D cA K Q L st M H locs ls C hK hN h S k
  match st, h, S with
  | [.inr (t, j)], h, S =>
    exact W.aret C.1 C.2.1 C.2.2.2.2.2.1 (Or.inl ⟨n, rfl⟩) (Or.inr ⟨_, rfl⟩) (fun t' ht hW => ⟨⟨some (.inr (t, j)), M, rfl, h, fun w hw => by cases hw; exact S.2.2.2.2.2.1.hd, S.2.2.2.2.2.2, by rw [ht]; exact S.1⟩, S.2.2.1.F ht⟩) S.2.2.1.2.2 hd C.2.2.2.2.2.2
theorem ms_vret (hd : decode cc pc = .ok (.return_, 1)) : mv_Snd cc maxL none own lvl pc mo_vret := by
  intro p l e s m args below meth c ad D cA K Q L st M H locs ls C hK hN h S k
  match st, h, S with
  | [], h, S =>
    exact W.vret C.1 C.2.1 C.2.2.2.2.2.1 (fun t ht hW => ⟨⟨none, M, rfl, h, fun w hw => (by cases hw), S.2.2.2.2.2.2, by rw [ht]; exact S.1⟩, S.2.2.1.F ht⟩) S.2.2.1.2.2 hd C.2.2.2.2.2.2
end MVS
