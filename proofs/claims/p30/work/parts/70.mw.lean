/-! THE LAW'S MACHINE. As the small machine, but a place may also hold a raw value (a long, the script's address), and it walks in any room, with any end. -/
abbrev mw_V : Type := mv_V ⊕ Value
abbrev mw_L : Type := List (Option mw_V)
abbrev mw_K : Type := Nat → mw_L → List mw_V → mv_M → Prop
abbrev mw_O : Type := mw_K → mw_L → List mw_V → mv_M → Prop
def mw_tr (ad : Nat → Nat → Nat) (v : mw_V) : Value := match v with
  | .inl v => mv_tr ad v
  | .inr v => v
def mw_pr (ad : Nat → Nat → Nat) (L : mw_L) : List (Nat × Value) := L.zipIdx.filterMap (fun x => x.1.map (fun v => (x.2, mw_tr ad v)))
theorem mw_pr_mem {ad : Nat → Nat → Nat} {L : mw_L} {i : Nat} {x : Value} : (i, x) ∈ mw_pr ad L ↔ ∃ v, L[i]? = some (some v) ∧ x = mw_tr ad v := by
  simp only [mw_pr, List.mem_filterMap]
  constructor
  · rintro ⟨⟨o, n⟩, h1, h2⟩
    have h1 := List.mem_zipIdx_iff_getElem?.mp h1
    cases o with
    | none => simp at h2
    | some v =>
      simp only [Option.map_some, Option.some.injEq, Prod.mk.injEq] at h2
      obtain ⟨rfl, rfl⟩ := h2
      exact ⟨v, h1, rfl⟩
  · rintro ⟨v, h1, rfl⟩
    exact ⟨(some v, i), List.mem_zipIdx_iff_getElem?.mpr h1, rfl⟩
def mw_F (ad : Nat → Nat → Nat) (n : Nat) (ls : Array Slot) (L : mw_L) : Prop := lv_has ls n (mw_pr ad L) ∧ L.length ≤ n
theorem mw_F.at {ad : Nat → Nat → Nat} {n : Nat} {ls : Array Slot} {L : mw_L} (h : mw_F ad n ls L) {i : Nat} {v : mw_V} (hv : L[i]? = some (some v)) : ls[i]? = some (.val (mw_tr ad v)) :=
  h.1.2.2 (i, mw_tr ad v) (mw_pr_mem.mpr ⟨v, hv, rfl⟩)
/-- no raw value just ahead of a place -/
def mw_nr (L : mw_L) (i : Nat) : Prop := ∀ w, L[i]? = some (some w) → ∃ u, w = .inl u
theorem mw_F.put {ad : Nat → Nat → Nat} {n : Nat} {ls ls' : Array Slot} {L : mw_L} (h : mw_F ad n ls L) {i : Nat} {v : mw_V} (hn : ∀ j, j + 1 = i → mw_nr L j)
    (h' : lv_has ls' n ((i, mw_tr ad v) :: (mw_pr ad L).filter (fun q => !(q.1 == i) && !(q.1 + 1 == i && q.2.category == 2)))) : mw_F ad n ls' (L.set i (some v)) := by
  refine ⟨⟨h'.1, h'.2.1, fun q hq => h'.2.2 q ?_⟩, by rw [List.length_set]; exact h.2⟩
  obtain ⟨j, x⟩ := q
  obtain ⟨w, hw, rfl⟩ := mw_pr_mem.mp hq
  rw [List.getElem?_set] at hw
  by_cases hj : i = j
  · subst hj
    simp at hw
    rw [hw.2]
    exact List.mem_cons_self
  · rw [if_neg hj] at hw
    refine List.mem_cons_of_mem _ (List.mem_filter.mpr ⟨mw_pr_mem.mpr ⟨w, hw, rfl⟩, ?_⟩)
    have e1 : (j == i) = false := by simp; exact fun q => hj q.symm
    by_cases hji : j + 1 = i
    · obtain ⟨u, rfl⟩ := hn j hji w hw
      have hc := mv_tr_cat ad u
      have e2 : (mw_tr ad (.inl u)).category = 1 := hc
      simp [e1, e2]
    · simp [e1, hji]
theorem mw_F.put2 {ad : Nat → Nat → Nat} {n : Nat} {ls ls' : Array Slot} {L : mw_L} (h : mw_F ad n ls L) {i : Nat} {v : mw_V} (hn : ∀ j, j + 1 = i → mw_nr L j)
    (h' : lv_has ls' n ((i, mw_tr ad v) :: (mw_pr ad L).filter (fun q => !(q.1 == i) && (!(q.1 == i + 1) && !(q.1 + 1 == i && q.2.category == 2))))) : mw_F ad n ls' ((L.set i (some v)).set (i + 1) none) := by
  refine ⟨⟨h'.1, h'.2.1, fun q hq => h'.2.2 q ?_⟩, by rw [List.length_set, List.length_set]; exact h.2⟩
  obtain ⟨j, x⟩ := q
  obtain ⟨w, hw, rfl⟩ := mw_pr_mem.mp hq
  rw [List.getElem?_set] at hw
  by_cases hj1 : i + 1 = j
  · rw [if_pos hj1] at hw
    split at hw <;> simp at hw
  · rw [if_neg hj1, List.getElem?_set] at hw
    by_cases hj : i = j
    · subst hj
      simp at hw
      rw [hw.2]
      exact List.mem_cons_self
    · rw [if_neg hj] at hw
      refine List.mem_cons_of_mem _ (List.mem_filter.mpr ⟨mw_pr_mem.mpr ⟨w, hw, rfl⟩, ?_⟩)
      have e1 : (j == i) = false := by simp; exact fun q => hj q.symm
      have e3 : (j == i + 1) = false := by simp; exact fun q => hj1 q.symm
      by_cases hji : j + 1 = i
      · obtain ⟨u, rfl⟩ := hn j hji w hw
        have e2 : (mw_tr ad (.inl u)).category = 1 := mv_tr_cat ad u
        simp [e1, e2, e3]
      · simp [e1, hji, e3]
def mw_vok (v : mw_V) : Prop := match v with
  | .inl v => mv_vok v
  | .inr _ => True
def mw_Lok (L : mw_L) : Prop := ∀ (i : Nat) (v : mw_V), L[i]? = some (some v) → mw_vok v
def mw_Sok (st : List mw_V) : Prop := ∀ v ∈ st, mw_vok v
theorem mw_Lok.set {L : mw_L} (h : mw_Lok L) {i : Nat} {v : mw_V} (hv : mw_vok v) : mw_Lok (L.set i (some v)) := by
  intro j w hw
  rw [List.getElem?_set] at hw
  by_cases hj : i = j
  · subst hj
    simp at hw
    rw [← hw.2]; exact hv
  · rw [if_neg hj] at hw
    exact h j w hw
theorem mw_Lok.setN {L : mw_L} (h : mw_Lok L) {i : Nat} : mw_Lok (L.set i none) := by
  intro j w hw
  rw [List.getElem?_set] at hw
  by_cases hj : i = j
  · rw [if_pos hj] at hw
    split at hw <;> simp at hw
  · rw [if_neg hj] at hw
    exact h j w hw
theorem mw_Sok.cons {v : mw_V} {st : List mw_V} (hv : mw_vok v) (h : mw_Sok st) : mw_Sok (v :: st) := fun w hw => (List.mem_cons.mp hw).elim (fun e => by rw [e]; exact hv) (h w)
theorem mw_Sok.tl {v : mw_V} {st : List mw_V} (h : mw_Sok (v :: st)) : mw_Sok st := fun w hw => h w (List.mem_cons_of_mem _ hw)
theorem mw_Sok.hd {v : mw_V} {st : List mw_V} (h : mw_Sok (v :: st)) : mw_vok v := h v List.mem_cons_self
-- places
def mw_got : Option mw_V → (mw_V → Prop) → Prop
  | none, _ => False
  | some v, k => k v
def mw_get : mw_L → Nat → (mw_V → Prop) → Prop
  | [], _, _ => False
  | o :: _, 0, k => mw_got o k
  | _ :: L, n + 1, k => mw_get L n k
theorem mw_get_at : ∀ {L : mw_L} {i : Nat} {k : mw_V → Prop}, mw_get L i k → ∃ v, L[i]? = some (some v) ∧ k v
  | [], _, _, h => h.elim
  | none :: _, 0, _, h => (show False from h).elim
  | some v :: _, 0, _, h => ⟨v, rfl, h⟩
  | _ :: L, n + 1, k, h => mw_get_at (L := L) h
def mw_ck1 : Option mw_V → Prop → Prop
  | none, p => p
  | some (.inl _), p => p
  | some (.inr _), _ => False
def mw_ck : Nat → Option mw_V → Prop → Prop
  | 0, x, p => mw_ck1 x p
  | _ + 1, _, p => p
theorem mw_ck_at {n : Nat} {x : Option mw_V} {p : Prop} (h : mw_ck n x p) : p ∧ (n = 0 → ∀ w, x = some w → ∃ u, w = .inl u) := by
  match n, x, h with
  | _ + 1, _, h => exact ⟨h, fun z => by omega⟩
  | 0, none, h => exact ⟨h, fun _ w hw => by cases hw⟩
  | 0, some (.inl u), h => exact ⟨h, fun _ w hw => ⟨u, (Option.some.inj hw).symm⟩⟩
  | 0, some (.inr v), h => exact (show False from h).elim
def mw_set : mw_L → Nat → mw_V → (mw_L → Prop) → Prop
  | [], _, _, _ => False
  | _ :: L, 0, v, k => k (some v :: L)
  | x :: L, n + 1, v, k => mw_ck n x (mw_set L n v (fun L' => k (x :: L')))
theorem mw_set_at : ∀ {L : mw_L} {i : Nat} {v : mw_V} {k : mw_L → Prop}, mw_set L i v k → i < L.length ∧ (∀ j, j + 1 = i → mw_nr L j) ∧ k (L.set i (some v))
  | [], _, _, _, h => h.elim
  | _ :: L, 0, _, _, h => ⟨by simp, fun j hj => by omega, h⟩
  | x :: L, n + 1, v, k, h => by
    obtain ⟨h1, h2⟩ := mw_ck_at (p := mw_set L n v (fun L' => k (x :: L'))) h
    obtain ⟨a1, a2, a3⟩ := mw_set_at (L := L) h1
    refine ⟨by simp; exact a1, fun j hj => ?_, a3⟩
    have e : j = n := by omega
    subst e
    intro w hw
    cases j with
    | zero => exact h2 rfl w (Option.some.inj hw)
    | succ j => exact a2 j rfl w hw
def mw_tl : mw_L → (mw_L → Prop) → Prop
  | [], _ => False
  | _ :: L, k => k L
def mw_set2 : mw_L → Nat → mw_V → (mw_L → Prop) → Prop
  | [], _, _, _ => False
  | _ :: L, 0, v, k => mw_tl L (fun L' => k (some v :: none :: L'))
  | x :: L, n + 1, v, k => mw_ck n x (mw_set2 L n v (fun L' => k (x :: L')))
theorem mw_set2_at : ∀ {L : mw_L} {i : Nat} {v : mw_V} {k : mw_L → Prop}, mw_set2 L i v k → i + 1 < L.length ∧ (∀ j, j + 1 = i → mw_nr L j) ∧ k ((L.set i (some v)).set (i + 1) none)
  | [], _, _, _, h => h.elim
  | [_], 0, _, _, h => (show False from h).elim
  | _ :: _ :: L, 0, _, _, h => ⟨by simp, fun j hj => by omega, h⟩
  | x :: L, n + 1, v, k, h => by
    obtain ⟨h1, h2⟩ := mw_ck_at (p := mw_set2 L n v (fun L' => k (x :: L'))) h
    obtain ⟨a1, a2, a3⟩ := mw_set2_at (L := L) h1
    refine ⟨by simp; exact a1, fun j hj => ?_, a3⟩
    have e : j = n := by omega
    subst e
    intro w hw
    cases j with
    | zero => exact h2 rfl w (Option.some.inj hw)
    | succ j => exact a2 j rfl w hw
-- the context of a walk
abbrev mw_X : Type := Program × Launch × Env × Room × State × MethodId × Array Value × List Frame × Method × Code × (Nat → Nat → Nat) × va_G × (Nat → ClassId) × (Nat → Prop) × Nat × Nat × Nat × (State → Prop) × ByteArray × String
def mw_Cx : mw_X → Prop
  | (p, _, _, _, s, m, args, _, _, c, ad, D, cA, A, maxL, _, _, _, cc, own) => p.tables.exec = Jvm.exec ∧ c.code = cc ∧ c.maxLocals = maxL ∧ s.vm.findClass own = some m.cls ∧ (∀ w ∈ mv_tb, w.before args s = true) ∧ va_K D vwCl (mv_tys cA) s ∧ mv_N s ∧ (∀ M, va_D (mv_A ad) (mv_ws ad cA M)) ∧ ∀ q, mv_A ad q → A q
def mw_St (s : State) (ad : Nat → Nat → Nat) (D : va_G) (cA : Nat → ClassId) (A : Nat → Prop) (n : Nat) (M : mv_M) (L : mw_L) (st : List mw_V) (H : Heap) (locs : List Loc) (ls : Array Slot) : Prop :=
  va_P D vwCl (mv_ws ad cA M) H ∧ va_S A s.heap H locs ∧ mw_F ad n ls L ∧ mw_Lok L ∧ mw_Sok st ∧ mv_Mok M
def mw_G : mw_X → mw_K
  | (p, l, e, R, s, m, args, below, meth, c, ad, D, cA, A, maxL, nc, ns, Qm, _, _), pc, L, st, M => ∀ (H : Heap) (locs : List Loc) (ls : Array Slot), mw_St s ad D cA A maxL M L st H locs ls →
    W p l e R s m args below meth c H locs nc ns Qm (F0 m pc ls (st.map (mw_tr ad)))
def mw_Snd (X : mw_X) (pc : Nat) (op : mw_O) : Prop := ∀ (K : mw_K) (L : mw_L) (st : List mw_V) (M : mv_M), op K L st M → (∀ pc' L' st' M', K pc' L' st' M' → mw_G X pc' L' st' M') → mw_G X pc L st M
def mw_ro : mw_X → ByteArray := fun X => X.2.2.2.2.2.2.2.2.2.2.2.2.2.2.2.2.2.2.1
def mw_own : mw_X → String := fun X => X.2.2.2.2.2.2.2.2.2.2.2.2.2.2.2.2.2.2.2
/-- a called method's room -/
def mw_rm (lv mxL : Nat) : mw_X → Prop
  | (_, _, _, R, _, _, _, _, _, _, _, _, _, _, _, nc, ns, _, _, _) => lv + 1 + 1 ≤ R.frames ∧ 8 + (mxL + 11) + (40 + 30 * lv) ≤ R.locals ∧ nc + 0 ≤ R.cells ∧ ns + 0 ≤ R.slots
-- operators
def mx_no : mw_O := fun _ _ _ _ => False
def mx_const (z : Int) (nx : Nat) : mw_O := fun K L st M => K nx L (.inl (.inl z) :: st) M
def mx_long (h : Int64) (nx : Nat) : mw_O := fun K L st M => K nx L (.inr (.long h) :: st) M
def mx_iload (i nx : Nat) : mw_O := fun K L st M => mw_get L i (fun v => match v with
  | .inl (.inl x) => K nx L (.inl (.inl x) :: st) M
  | _ => False)
def mx_aload (i nx : Nat) : mw_O := fun K L st M => mw_get L i (fun v => match v with
  | .inl (.inr x) => K nx L (.inl (.inr x) :: st) M
  | .inr (.ref b) => K nx L (.inr (.ref b) :: st) M
  | _ => False)
def mx_lload (i nx : Nat) : mw_O := fun K L st M => mw_get L i (fun v => match v with
  | .inr (.long h) => K nx L (.inr (.long h) :: st) M
  | _ => False)
def mx_istore (i nx : Nat) : mw_O := fun K L st M => match st with
  | .inl (.inl x) :: st' => mw_set L i (.inl (.inl x)) (fun L' => K nx L' st' M)
  | _ => False
def mx_lstore (i nx : Nat) : mw_O := fun K L st M => match st with
  | .inr (.long h) :: st' => mw_set2 L i (.inr (.long h)) (fun L' => K nx L' st' M)
  | _ => False
def mx_iinc (i : Nat) (d : Int) (nx : Nat) : mw_O := fun K L st M => mw_get L i (fun v => match v with
  | .inl (.inl x) => (-2147483648 ≤ x + d ∧ x + d ≤ 2147483647) ∧ mw_set L i (.inl (.inl (x + d))) (fun L' => K nx L' st M)
  | _ => False)
def mx_iadd (nx : Nat) : mw_O := fun K L st M => match st with
  | .inl (.inl y) :: .inl (.inl x) :: st' => (-2147483648 ≤ x + y ∧ x + y ≤ 2147483647) ∧ K nx L (.inl (.inl (x + y)) :: st') M
  | _ => False
def mx_idiv (nx : Nat) : mw_O := fun K L st M => match st with
  | .inl (.inl y) :: .inl (.inl x) :: st' => (0 ≤ x ∧ 0 < y) ∧ K nx L (.inl (.inl (x / y)) :: st') M
  | _ => False
def mx_irem (nx : Nat) : mw_O := fun K L st M => match st with
  | .inl (.inl y) :: .inl (.inl x) :: st' => (0 ≤ x ∧ 0 < y) ∧ K nx L (.inl (.inl (x % y)) :: st') M
  | _ => False
def mx_iand (nx : Nat) : mw_O := fun K L st M => match st with
  | .inl (.inl y) :: .inl (.inl x) :: st' => K nx L (.inl (.inl (mv_and x y)) :: st') M
  | _ => False
def mx_ishr (nx : Nat) : mw_O := fun K L st M => match st with
  | .inl (.inl y) :: .inl (.inl x) :: st' => K nx L (.inl (.inl (mv_shr x y)) :: st') M
  | _ => False
def mx_i2l (nx : Nat) : mw_O := fun K L st M => match st with
  | .inl (.inl x) :: st' => K nx L (.inr (.long (Int32.ofInt x).toInt64) :: st') M
  | _ => False
def mx_lmul (nx : Nat) : mw_O := fun K L st M => match st with
  | .inr (.long y) :: .inr (.long x) :: st' => K nx L (.inr (.long (x * y)) :: st') M
  | _ => False
def mx_ladd (nx : Nat) : mw_O := fun K L st M => match st with
  | .inr (.long y) :: .inr (.long x) :: st' => K nx L (.inr (.long (x + y)) :: st') M
  | _ => False
/-- two longs that are the same -/
def mx_lcmp (nx : Nat) : mw_O := fun K L st M => match st with
  | .inr (.long y) :: .inr (.long x) :: st' => x = y ∧ K nx L (.inl (.inl 0) :: st') M
  | _ => False
def mx_goto (tg : Nat) : mw_O := fun K L st M => K tg L st M
def mx_ifeq (tg nx : Nat) : mw_O := fun K L st M => match st with
  | .inl (.inl x) :: st' => (x = 0 → K tg L st' M) ∧ (¬ x = 0 → K nx L st' M)
  | _ => False
def mx_ifne (tg nx : Nat) : mw_O := fun K L st M => match st with
  | .inl (.inl x) :: st' => (¬ x = 0 → K tg L st' M) ∧ (x = 0 → K nx L st' M)
  | _ => False
def mx_iflt (tg nx : Nat) : mw_O := fun K L st M => match st with
  | .inl (.inl x) :: st' => (x < 0 → K tg L st' M) ∧ (0 ≤ x → K nx L st' M)
  | _ => False
def mx_ifge (tg nx : Nat) : mw_O := fun K L st M => match st with
  | .inl (.inl x) :: st' => (0 ≤ x → K tg L st' M) ∧ (x < 0 → K nx L st' M)
  | _ => False
def mx_ifle (tg nx : Nat) : mw_O := fun K L st M => match st with
  | .inl (.inl x) :: st' => (x ≤ 0 → K tg L st' M) ∧ (0 < x → K nx L st' M)
  | _ => False
def mx_ceq (tg nx : Nat) : mw_O := fun K L st M => match st with
  | .inl (.inl y) :: .inl (.inl x) :: st' => (x = y → K tg L st' M) ∧ (¬ x = y → K nx L st' M)
  | _ => False
def mx_cne (tg nx : Nat) : mw_O := fun K L st M => match st with
  | .inl (.inl y) :: .inl (.inl x) :: st' => (¬ x = y → K tg L st' M) ∧ (x = y → K nx L st' M)
  | _ => False
def mx_clt (tg nx : Nat) : mw_O := fun K L st M => match st with
  | .inl (.inl y) :: .inl (.inl x) :: st' => (x < y → K tg L st' M) ∧ (y ≤ x → K nx L st' M)
  | _ => False
def mx_cge (tg nx : Nat) : mw_O := fun K L st M => match st with
  | .inl (.inl y) :: .inl (.inl x) :: st' => (y ≤ x → K tg L st' M) ∧ (x < y → K nx L st' M)
  | _ => False
def mx_cle (tg nx : Nat) : mw_O := fun K L st M => match st with
  | .inl (.inl y) :: .inl (.inl x) :: st' => (x ≤ y → K tg L st' M) ∧ (y < x → K nx L st' M)
  | _ => False
/-- the end: what stands on the stack then -/
def mx_end (E : List mw_V → mv_M → Prop) : mw_O := fun _ _ st M => E st M
