/-! THE CLAIM OUT OF ONE WALK OF THE LAW'S BODY. Your part is whole_start (and what it stands on); all else here is the same for every law, but numbers. -/
def R_law : String := "QuoteGridLaw"
def lw_P (b : Addr) (xs : List Int32) (args : Array Value) (s : State) : Prop := args = #[.ref b] ∧ s.IntsAt b xs ∧ xs.length ≤ 260 ∧ (Jvm.Cond.and given_1 narrow_1).before args s = true
def lw_Q (_ : Array Value) (s : State) (o : Outcome) (t : State) : Prop := o = .returned (some (.int 1)) ∧ Framed s o t [] 600000 7302250
def lw_Z (below : List Frame) (a : Array Value) (s : State) : State → Prop := fun t => ∃ o, t.status = .running ∧ Ended t below o ∧ lw_Q a s o t
/-- the law's own end, with 1 on the stack, nothing written that was there before, its room as the claim has it -/
theorem lw_ret {p : Program} {l : Launch} {e : Env} {s : State} {m : MethodId} {below : List Frame} {meth : Method} {c : Code} {b : Nat} (hx : p.tables.exec = Jvm.exec) (hb : c.code = code) (hr : meth.sig.returnType = ret) (hlocks : meth.locks = false) {pc : Nat} {H : Heap} {ls : Array Slot} (hdg : decode code pc = .ok (.ireturn, 1)) : W p l e room_1 s m #[Value.ref b] below meth c H [] 600000 7302250 (lw_Z below #[Value.ref b] s) (F0 m pc ls [.int 1]) := by
  intro T hT X
  obtain ⟨fs, hret, hrun, hended, hW, hframe⟩ := X.leave (v := some (.int 1)) (hlocks := hlocks) (fun h => by rw [hr] at h; cases h)
  have hmeth' : T.vm.method? m = some meth := X.method'
  refine ⟨T.setFrames fs, ?_, .returned (some (.int 1)), hrun, hended, rfl, ⟨_, rfl⟩, hW, hframe⟩
  jvm_step X.here [X.here.top, hx, hb, hdg, hmeth', hr, ret, narrow_b1]
  (try refine ⟨rfl, ?_⟩); (try refine ⟨rfl, ?_⟩)
  first | (intro acts; rw [hret _ acts rfl rfl rfl]) | rw [hret _ _ rfl rfl rfl]
  exact Steps.refl _
/-- what holds at the law's entry: the machine, the code, the tables' words (any of lw_tbl by 'hts w (by decide +kernel)'), the script of L ints xs at the cell b, what the Statement gives of the start (any of its parts by flat_of_before) -/
def lw_At (p : Program) (s : State) (m : MethodId) (meth : Method) (c : Code) (b L : Nat) (xs : Nat → Int32) : Prop :=
  p.tables.exec = Jvm.exec ∧ c.code = code ∧ meth.sig.returnType = ret ∧ c.maxLocals = 12 ∧ s.vm.findClass R_law = some m.cls ∧ (∀ w ∈ lw_tbl, w.before #[Value.ref b] s = true) ∧ va_X b L xs s s.heap ∧ b < s.heap.size ∧ meth.locks = false ∧ (Jvm.Cond.and given_1 narrow_1).before #[Value.ref b] s = true

/-! The law: its start. -/
theorem wq_0 : Cond.instantiable RX0 4 ∈ mv_tb := mv_w 55 (by decide +kernel) (by decide +kernel)
theorem wq_1 : Cond.instantiable RX1 5 ∈ mv_tb := mv_w 46 (by decide +kernel) (by decide +kernel)
theorem wq_2 : Cond.instantiable RX2 5 ∈ mv_tb := mv_w 271 (by decide +kernel) (by decide +kernel)
theorem wq_3 : Cond.instantiable RX3 2 ∈ mv_tb := mv_w 196 (by decide +kernel) (by decide +kernel)
theorem wq_4 : Cond.instantiable RX4 3 ∈ mv_tb := mv_w 264 (by decide +kernel) (by decide +kernel)
theorem wq_5 : Cond.instantiable RX5 8 ∈ mv_tb := mv_w 88 (by decide +kernel) (by decide +kernel)
theorem wq_6 : Cond.instantiable RX6 5 ∈ mv_tb := mv_w 213 (by decide +kernel) (by decide +kernel)
theorem wq_7 : Cond.instantiable RX7 3 ∈ mv_tb := mv_w 40 (by decide +kernel) (by decide +kernel)
theorem wq_8 : Cond.instantiable RX8 2 ∈ mv_tb := mv_w 219 (by decide +kernel) (by decide +kernel)
theorem wq_9 : Cond.instantiable RX9 6 ∈ mv_tb := mv_w 256 (by decide +kernel) (by decide +kernel)
theorem wq_10 : Cond.instantiable RX10 7 ∈ mv_tb := mv_w 32 (by decide +kernel) (by decide +kernel)
theorem wq_11 : Cond.classLink R_law 13 RX10 ∈ mv_tb := mv_w 31 (by decide +kernel) (by decide +kernel)
theorem wq_12 : Cond.initialized RX10 ∈ mv_tb := mv_w 17 (by decide +kernel) (by decide +kernel)
theorem wq_13 : Cond.methodLink R_law 87 yX10_init ∈ mv_tb := mv_w 33 (by decide +kernel) (by decide +kernel)
theorem wq_14 : Cond.instanceMethod yX10_init ∈ mv_tb := mv_w 34 (by decide +kernel) (by decide +kernel)
theorem wq_15 : Cond.arrayClass .int ∈ mv_tb := mv_w 87 (by decide +kernel) (by decide +kernel)
theorem wq_16 : Cond.arrayClass .boolean ∈ mv_tb := mv_w 194 (by decide +kernel) (by decide +kernel)
theorem wq_17 : Cond.arrayOver (.object RX0) ∈ lw_tbl := List.mem_of_getElem? (i := 52) (by decide +kernel)
theorem wq_18 : Cond.arrayOver (.object RX5) ∈ lw_tbl := List.mem_of_getElem? (i := 54) (by decide +kernel)
theorem wq_19 : Cond.arrayOver (.object RX1) ∈ lw_tbl := List.mem_of_getElem? (i := 180) (by decide +kernel)
theorem wq_20 : Cond.arrayOver (.object RX7) ∈ lw_tbl := List.mem_of_getElem? (i := 202) (by decide +kernel)
theorem wq_21 : Cond.arrayOver (.object RX2) ∈ lw_tbl := List.mem_of_getElem? (i := 270) (by decide +kernel)
theorem lq_nest : ∀ q ∈ mv_nest, Cond.methodLinkNest q.1 q.2.1 q.2.2 "QuoteGrid" ∈ lw_tbl := List.forall_mem_cons.mpr ⟨List.mem_of_getElem? (i := 56) (by decide +kernel), List.forall_mem_cons.mpr ⟨List.mem_of_getElem? (i := 89) (by decide +kernel), List.forall_mem_cons.mpr ⟨List.mem_of_getElem? (i := 214) (by decide +kernel), List.forall_mem_cons.mpr ⟨List.mem_of_getElem? (i := 220) (by decide +kernel), List.forall_mem_cons.mpr ⟨List.mem_of_getElem? (i := 257) (by decide +kernel), List.forall_mem_cons.mpr ⟨List.mem_of_getElem? (i := 272) (by decide +kernel), List.forall_mem_cons.mpr ⟨List.mem_of_getElem? (i := 409) (by decide +kernel), List.forall_mem_cons.mpr ⟨List.mem_of_getElem? (i := 435) (by decide +kernel), List.forall_mem_cons.mpr ⟨List.mem_of_getElem? (i := 442) (by decide +kernel), List.forall_mem_cons.mpr ⟨List.mem_of_getElem? (i := 453) (by decide +kernel), List.forall_mem_cons.mpr ⟨List.mem_of_getElem? (i := 454) (by decide +kernel), List.forall_mem_cons.mpr ⟨List.mem_of_getElem? (i := 457) (by decide +kernel), List.forall_mem_cons.mpr ⟨List.mem_of_getElem? (i := 468) (by decide +kernel), List.forall_mem_cons.mpr ⟨List.mem_of_getElem? (i := 498) (by decide +kernel), List.forall_mem_cons.mpr ⟨List.mem_of_getElem? (i := 499) (by decide +kernel), List.forall_mem_cons.mpr ⟨List.mem_of_getElem? (i := 504) (by decide +kernel), List.forall_mem_cons.mpr ⟨List.mem_of_getElem? (i := 575) (by decide +kernel), fun _ h => by cases h⟩⟩⟩⟩⟩⟩⟩⟩⟩⟩⟩⟩⟩⟩⟩⟩⟩
/-- the classes and the arrays, as the tables have them -/
theorem lq_known {s : State} {b : Nat} (hts0 : ∀ w ∈ lw_tbl, w.before #[Value.ref b] s = true) : ∃ (D : va_G) (cA : Nat → ClassId), va_K D vwCl (mv_tys cA) s := by
  have hts : ∀ w ∈ mv_tb, w.before #[Value.ref b] s = true := fun w hw => hts0 w (List.mem_filter.mp hw).1
  have kc : ∀ c : Nat, ∃ r : ClassId × (Nat → Nat), ∀ q : vw_C, vwCl[c]? = some q → u_Kn s q.1 q.2.1 q.2.2 r.1 r.2 := by
    have one : ∀ {c : Nat} {R : String} {T : u_T} {N : Nat} {ty : Nat → FieldType}, mv_CI c R T N ty → Cond.instantiable R N ∈ mv_tb → ∃ r : ClassId × (Nat → Nat), ∀ q : vw_C, vwCl[c]? = some q → u_Kn s q.1 q.2.1 q.2.2 r.1 r.2 := by
      intro c R T N ty hI hw
      obtain ⟨cC, iS, h⟩ := u_known hts hI.2.2.1 (hts _ hw)
      refine ⟨(cC, iS), fun q hq => ?_⟩
      rw [hI.2.1] at hq
      cases hq
      exact h
    intro c
    match c with
    | 0 => exact one mc_X0 wq_0
    | 1 => exact one mc_X1 wq_1
    | 2 => exact one mc_X2 wq_2
    | 3 => exact one mc_X3 wq_3
    | 4 => exact one mc_X4 wq_4
    | 5 => exact one mc_X5 wq_5
    | 6 => exact one mc_X6 wq_6
    | 7 => exact one mc_X7 wq_7
    | 8 => exact one mc_X8 wq_8
    | 9 => exact one mc_X9 wq_9
    | 10 => exact one mc_X10 wq_10
    | c + 11 =>
      obtain ⟨cC, iS, h⟩ := u_known hts mc_X0.2.2.1 (hts _ wq_0)
      exact ⟨(cC, iS), fun q hq => by simp at hq⟩
  have ka : ∀ i : Nat, ∃ r : ClassId, i < 7 → ArrOfT s r (mv_at i) ∧ va_RA s r (mv_at i) := by
    have prim : ∀ {ty : FieldType}, Cond.arrayClass ty ∈ mv_tb → ∃ r : ClassId, ArrOfT s r ty ∧ s.vm.findClass ("[" ++ ty.toString) = some r := by
      intro ty hw
      obtain ⟨cA, kA, comp, hfind, hk, hkind⟩ := Cond.arrayClass_spec (hts _ hw)
      exact ⟨cA, fun n z => ⟨(fun k h => by cases h), kA, hk, comp, hkind⟩, hfind⟩
    have over : ∀ {C : String}, Cond.arrayOver (.object C) ∈ lw_tbl → ∃ r : ClassId, ArrOfT s r (.object C) ∧ va_RA s r (.object C) := by
      intro C hw
      obtain ⟨comp, cc, k, h1, h2, h3, h4, h5⟩ := Cond.arrayOver_spec (hts0 _ hw)
      exact ⟨cc, fun n z => ⟨(fun k h => by cases h), k, h3, comp, h4⟩, k, comp, h3, h4, h1, h5⟩
    intro i
    match i with
    | 0 => obtain ⟨r, h1, h2⟩ := prim wq_15; exact ⟨r, fun _ => ⟨h1, h2⟩⟩
    | 1 => obtain ⟨r, h1, h2⟩ := prim wq_16; exact ⟨r, fun _ => ⟨h1, h2⟩⟩
    | 2 => obtain ⟨r, h⟩ := over wq_17; exact ⟨r, fun _ => h⟩
    | 3 => obtain ⟨r, h⟩ := over wq_18; exact ⟨r, fun _ => h⟩
    | 4 => obtain ⟨r, h⟩ := over wq_19; exact ⟨r, fun _ => h⟩
    | 5 => obtain ⟨r, h⟩ := over wq_20; exact ⟨r, fun _ => h⟩
    | 6 => obtain ⟨r, h⟩ := over wq_21; exact ⟨r, fun _ => h⟩
    | i + 7 => obtain ⟨r, h⟩ := over wq_17; exact ⟨r, fun z => absurd z (by omega)⟩
  obtain ⟨f, hf⟩ := Classical.axiomOfChoice kc
  obtain ⟨g, hg⟩ := Classical.axiomOfChoice ka
  refine ⟨(fun c => (f c).1, fun c => (f c).2), g, fun c q hq => hf c q hq, fun k q hq => ?_⟩
  by_cases h7 : k < 7
  · rw [mv_tys_at g h7] at hq
    cases hq
    exact hg k h7
  · rw [List.getElem?_eq_none (by simp [mv_tys]; omega)] at hq
    cases hq
theorem mg_mem_add {G : mg_G} {t j q : Nat} : (t, j) ∈ (mg_add G t j q).1 := List.mem_append_right _ (List.mem_singleton.mpr rfl)
theorem mg_add_at {G : mg_G} {t j q : Nat} : (mg_add G t j q).2.1 t j = q := by
  show (if t = t ∧ j = j then q else G.2.1 t j) = q
  rw [if_pos ⟨rfl, rfl⟩]

/-- a constructor called in the law -/
theorem lq_init {p : Program} {l : Launch} {e : Env} {s : State} {m : MethodId} {below : List Frame} {meth : Method} {c : Code} {b : Nat} {D : va_G} {cA : Nat → ClassId} {Qm : State → Prop} {pc idx lv C1 S1 t mxL nc ns : Nat} {y : MethodName} {bytes : ByteArray} {G : mg_G} {Q1 : mg_G → Prop} {H : Heap} {locs : List Loc} {ls : Array Slot}
    (hx : p.tables.exec = Jvm.exec) (hb : c.code = code) (hml : c.maxLocals = 12) (hown : s.vm.findClass R_law = some m.cls) (hts : ∀ w ∈ mv_tb, w.before #[Value.ref b] s = true) (hK : va_K D vwCl (mv_tys cA) s) (hN : mv_N s) (hAO : mg_AO s)
    (hd : decode code pc = .ok (.invokespecial idx, 3)) (hl : Cond.methodLink R_law idx y ∈ mv_tb) (hin : Cond.instanceMethod y ∈ mv_tb) (hy1 : y.name = "<init>") (hY : mv_Yk y bytes mxL none 0) (hlv : lv ≤ 9) (hls : lv_has ls 12 []) (hm : (t, 0) ∈ G.1) (hok : mg_ok G) (hP : va_P D vwCl (mg_ws cA G) H) (hD : va_D (fun q : Nat => s.heap.size ≤ q) (mg_ws cA G)) (hS : va_S (fun q : Nat => s.heap.size ≤ q) s.heap H locs) (hc : nc + C1 ≤ 600000) (hs : ns + S1 ≤ 7302250) (hEv : mg_Ev lv C1 S1 y bytes mxL G t 0 Q1)
    (kk : ∀ (G' : mg_G) (H' : Heap) (locs' : List Loc), Q1 G' → mg_ex G G' → mg_ok G' → va_P D vwCl (mg_ws cA G') H' → va_D (fun q : Nat => s.heap.size ≤ q) (mg_ws cA G') → va_S (fun q : Nat => s.heap.size ≤ q) s.heap H' locs' → W p l e room_1 s m #[Value.ref b] below meth c H' locs' (nc + C1) (ns + S1) Qm (F0 m (pc + 3) ls [.ref (G'.2.1 t 0)])) :
    W p l e room_1 s m #[Value.ref b] below meth c H locs nc ns Qm (F0 m pc ls [.ref (G.2.1 t 0), .ref (G.2.1 t 0)]) := by
  have hM := hEv l D cA H.size hm hok
  have hA : ∀ q : Nat, s.heap.size ≤ q → (fun q : Nat => s.heap.size ≤ q) q := fun _ h => h
  refine mg_goes (pc := pc) (maxL := 12) (L := []) (st' := [.inr (t, 0)]) (G := G) (G0 := G) (cA := cA) (D := D) (Q1 := Q1) (va_runI (As := []) (rest := [.ref (G.2.1 t 0)]) ⟨hx, hb, hml, hown, hts⟩ hM (cwI 0 hts (mv_goodIn hY.1) rfl rfl rfl (hts _ hY.2.1) (hts _ hl) (hts _ hin) hy1 ⟨hY.2.2.1.1, hY.2.2.1.2, hY.2.2.2.1⟩ ⟨by show lv + 1 + 1 ≤ 11; omega, by show 8 + (mxL + 11) + (40 + 30 * lv) ≤ 414; have := hY.2.2.2.2; omega⟩)
    ⟨mg_blind, fun U hU hW => ⟨rfl, by rw [hU], by rw [hU]; exact hP, hD.weaken (fun _ _ _ _ => trivial), va_K.moved hW.alike hK, mv_N.warm hW hN, hAO.moved hW.alike⟩⟩ rfl rfl hls.1 rfl (by show 2 * 0 + (1 + 0) ≤ 8; decide) hd ⟨hc, hs⟩) hD hS hA ⟨hls, Nat.zero_le _⟩ (fun i v h => by simp at h) (fun v h => ?_) mg_ex.rf (fun G' H' locs' hQ1 hex SS => ?_)
  · rw [List.mem_singleton.mp h]; exact hm
  · exact kk G' H' locs' hQ1 hex SS.2.2.2.2.2.2.1 SS.1 SS.2.1 SS.2.2.1

theorem pz_F0 : pz_F qg_F0 := by
  refine ⟨⟨pz_dj_none, fun k C h => ?_⟩, (fun S h => by cases h), rfl⟩
  unfold qg_sn at h
  split at h <;> cases h
set_option maxRecDepth 100000 in
/-- THE LAW, from its entry -/
theorem whole_start {p : Program} {e : Env} {s : State} {m : MethodId} {below : List Frame} {meth : Method} {c : Code} (l : Launch) (hflags : l.flags = flags0) {b L : Nat} {xs : Nat → Int32} (hL : L ≤ 260) (C0 : lw_At p s m meth c b L xs) : W p l e room_1 s m #[Value.ref b] below meth c s.heap [] 0 0 (lw_Z below #[Value.ref b] s) (entryFrame m ([Value.ref b] : List Value).toArray 12) := by
  obtain ⟨hx, hb, hr, hml, hown, hts0, hX, hbl, hlocks, hgv⟩ := id C0
  have hts : ∀ w ∈ mv_tb, w.before #[Value.ref b] s = true := fun w hw => hts0 w (List.mem_filter.mp hw).1
  have hA : ∀ q : Nat, s.heap.size ≤ q → (fun q : Nat => s.heap.size ≤ q) q := fun _ h => h
  have hN : mv_N s := fun q hq => va_Nw.of rfl (hts0 _ (lq_nest q hq))
  have hAO : mg_AO s := List.forall_mem_cons.mpr ⟨va_AO.of (hts0 _ wq_17), List.forall_mem_cons.mpr ⟨va_AO.of (hts0 _ wq_18), List.forall_mem_cons.mpr ⟨va_AO.of (hts0 _ wq_19), List.forall_mem_cons.mpr ⟨va_AO.of (hts0 _ wq_20), List.forall_mem_cons.mpr ⟨va_AO.of (hts0 _ wq_21), fun _ h => by cases h⟩⟩⟩⟩⟩
  obtain ⟨D, cA, hK⟩ := lq_known hts0
  obtain ⟨X, hr1, hck⟩ := sy_fin_at
  have hS : va_S (fun q : Nat => s.heap.size ≤ q) s.heap s.heap [] := va_S.rf
  obtain ⟨G0, hG0⟩ : ∃ G0 : mg_G, G0 = ([], (fun _ _ => 0), (fun _ _ _ => none), (fun _ _ _ => 0)) := ⟨_, rfl⟩
  have hI0 : G0.1 = [] := by rw [hG0]
  have hZ0 : ∀ t j k, G0.2.2.1 t j k = none ∧ G0.2.2.2 t j k = 0 := fun t j k => by rw [hG0]; exact ⟨rfl, rfl⟩
  have hok0 : mg_ok G0 := fun t j _ k => hZ0 t j k
  have hn0 : (10, 0) ∉ G0.1 := by rw [hI0]; exact fun h => by cases h
  have hm0 : sy_m ([], [], []) G0 := ⟨(fun t j => by rw [hI0]; exact ⟨(fun h => by cases h), (fun h => by cases h)⟩), (fun t j k => (hZ0 t j k).1), (fun t j k y h => by cases h), fun t j k => (hZ0 t j k).2⟩
  have hw0 : mg_ws cA G0 = [] := by unfold mg_ws; rw [hI0]; rfl
  have hP : va_P D vwCl (mg_ws cA G0) s.heap := fun k q h => by rw [hw0] at h; simp at h
  have hD : va_D (fun q : Nat => s.heap.size ≤ q) (mg_ws cA G0) := ⟨(fun i j p q h => by rw [hw0] at h; simp at h), fun k q h => by rw [hw0] at h; simp at h⟩
  have hl := lv_entry ([.ref b]) (n := 12) (Nat.le_of_ble_eq_true rfl)
  rw [lg_entry_eq]
  generalize (lg_sl ([.ref b]) ++ List.replicate (12 - (lg_sl ([.ref b])).length) Slot.unset).toArray = ls at hl ⊢
  have hl : lv_has ls 12 [(0, .ref b)] := hl
  refine va_new (ci := 10) (fs := mg_fs G0 10 0) (C := RX10) (T := TX10) (N := 7) hx hb hts mi_X10 tyX10 tyX10_ok hown (hts _ wq_11) (hts _ wq_10) (hts _ wq_12) hK hP hD hS hA rfl (nd_X10 G0 0 (fun k => hZ0 10 0 k)) (by decide) (by decide) dL_law_0 (fun q H1 hP hD hS => ?_)
  have ec : (Sum.inr (10, mg_fs G0 10 0) : va_E) = mg_cell cA G0 10 0 := (mg_cell_obj (by decide)).symm
  rw [ec, ← mg_ws_add hn0] at hP hD
  have hok1 : mg_ok (mg_add G0 10 0 q) := hok0.add
  have hm1 : sy_m ([(10, 0)], [], []) (mg_add G0 10 0 q) := hm0.add rfl
  have hi1 : (10, 0) ∈ (mg_add G0 10 0 q).1 := mg_mem_add
  have ea : q = (mg_add G0 10 0 q).2.1 10 0 := mg_add_at.symm
  refine lv_dup hx hb dL_law_3 rfl ?_
  generalize mg_add G0 10 0 q = G1 at *
  rw [ea]
  refine lq_init hx hb hml hown hts hK hN hAO dL_law_4 wq_13 wq_14 rfl yk_X10_init (by decide) (lv_sub hl [] rfl) hi1 hok1 hP hD hS (by decide) (by decide) (mg_ev (sy_ny 10).1 (sy_ny 10).2.1 (fun _ => sy_ent (sy_ny 10).2.2 (sy_run_good _ _ _ _ _ _ _ _ _ hr1 G1 (fun G' => sy_m X G') hm1 (fun G' h => h)))) (fun G2 H2 locs2 hm2 hex2 hok2 hP hD hS => ?_)
  refine lv_astore_n (lv' := [(1, .ref (G2.2.1 10 0)), (0, .ref b)]) hx hb dL_law_7 rfl hl (by decide) rfl (fun ls hl => ?_)
  have hrd := sy_ready hm2 hck
  have hD2 := mg_toD hm2 hck hD
  have hAA : ∀ q, mv_A G2.2.1 q → s.heap.size ≤ q := fun q hq => by
    obtain ⟨t, j, htj, rfl⟩ := hq
    have hx2 := mv_mem_IX htj
    obtain ⟨k, hk⟩ := List.getElem?_of_mem (hrd.1 t j hx2.1 hx2.2)
    exact hD.2 k (G2.2.1 t j, mg_cell cA G2 t j) (by simp only [mg_ws, List.getElem?_map, hk]; rfl)
  have hCx : mw_Cx (p, l, e, room_1, s, m, #[Value.ref b], below, meth, c, G2.2.1, D, cA, (fun q : Nat => s.heap.size ≤ q), 12, 568, 8220, lw_Z below #[Value.ref b] s, cL_law, RL) :=
    ⟨hx, hb, hml, hown, hts, hK, hN, fun M' => mv_D_any hD2, hAA⟩
  have hts2 := ts_L_law (b := b) (E := fun st _ => st = [.inl (.inl 1)]) hCx rfl rfl ⟨L, xs, hX, by omega, hbl, Nat.not_le.mpr hbl⟩ (fun lv mxL h1 h2 => ⟨by show lv + 1 + 1 ≤ 11; omega, by show 8 + (mxL + 11) + (40 + 30 * lv) ≤ 414; omega, Nat.le_of_ble_eq_true rfl, Nat.le_of_ble_eq_true rfl⟩) (fun L' st M' hE => by
    subst hE
    intro H locs ls S
    refine va_forget (fun q hq => S.2.1.2.2 q hq) ?_
    refine W.widen (k := 600000) (n := 7302250) (by decide) (by decide) ?_
    exact lw_ret hx hb hr hlocks dL_law_565)
  have hG := lw_all (F := qg_F0) (M1 := mg_M0) (x2 := none) (x3 := none) (x4 := none) (x5 := none) (x6 := none) (x7 := none) (x8 := none) (x9 := none) (x10 := none) (x11 := none) (fun cut n pc L st M' => mw_run_G (cut := cut) hts2 n pc L st M') qg_F0_w pz_F0 (fun _ => rfl) mg_M0_X
  refine hG H2 locs2 ls ⟨mg_toP hm2 hck hP, hS, ⟨lv_sub hl [1, 0] rfl, Nat.le_refl 12⟩, fun i v hv => ?_, (fun v hv => by cases hv), mg_M0_ok⟩
  match i, hv with
  | 0, hv =>
    have hv : (.inr (.ref b) : mw_V) = v := Option.some.inj (Option.some.inj hv)
    subst hv
    trivial
  | 1, hv =>
    have hv : (.inl (.inr (10, 0)) : mw_V) = v := Option.some.inj (Option.some.inj hv)
    subst hv
    exact ⟨by decide, by decide⟩
  | 2, hv => exact absurd (Option.some.inj hv) (by simp)
  | 3, hv => exact absurd (Option.some.inj hv) (by simp)
  | 4, hv => exact absurd (Option.some.inj hv) (by simp)
  | 5, hv => exact absurd (Option.some.inj hv) (by simp)
  | 6, hv => exact absurd (Option.some.inj hv) (by simp)
  | 7, hv => exact absurd (Option.some.inj hv) (by simp)
  | 8, hv => exact absurd (Option.some.inj hv) (by simp)
  | 9, hv => exact absurd (Option.some.inj hv) (by simp)
  | 10, hv => exact absurd (Option.some.inj hv) (by simp)
  | 11, hv => exact absurd (Option.some.inj hv) (by simp)
  | i + 12, hv => simp at hv
