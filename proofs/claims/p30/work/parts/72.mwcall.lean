/-! The law's machine: calls. -/
theorem mw_catsum (ad : Nat → Nat → Nat) : ∀ st : List mw_V, ((st.map (mw_tr ad)).map fun v => v.category).sum ≤ 2 * st.length
  | [] => Nat.le_refl _
  | v :: st => by
    have := mw_catsum ad st
    simp only [List.map_cons, List.sum_cons, List.length_cons]
    rcases lv_cat (mw_tr ad v) with e | e <;> rw [e] <;> omega
def mw_Qc (ad : Nat → Nat → Nat) (D : va_G) (cA : Nat → ClassId) (Q : Option mw_V → mv_M → Prop) : Array Value → State → Outcome → State → Prop := fun _ st oc t =>
  (∃ (v : Option mw_V) (M' : mv_M), oc = .returned (v.map (mw_tr ad)) ∧ Q v M' ∧ (∀ w, v = some w → mw_vok w) ∧ mv_Mok M' ∧ va_P D vwCl (mv_ws ad cA M') t.heap) ∧ va_F (mv_A ad) st t
def mw_Ev (lvl : Nat) (y : MethodName) (cc : ByteArray) (maxL : Nat) (ret : Option FieldType) (av : List mv_V) (M : mv_M) (Q : Option mw_V → mv_M → Prop) : Prop :=
  ∀ (l : Launch) (ad : Nat → Nat → Nat) (D : va_G) (cA : Nat → ClassId), mv_Sok av → mv_Mok M →
    Met l y (Cond.code y cc maxL ret :: mv_tb) (mv_rm lvl) (fun a U => a = (av.map (mv_tr ad)).toArray ∧ va_P D vwCl (mv_ws ad cA M) U.heap ∧ va_D (mv_A ad) (mv_ws ad cA M) ∧ va_K D vwCl (mv_tys cA) U ∧ mv_N U) (mw_Qc ad D cA Q) 0 0 (mv_A ad)
theorem mw_Ev.of {lvl : Nat} {y : MethodName} {cc : ByteArray} {maxL : Nat} {ret : Option FieldType} {av : List mv_V} {M : mv_M} {Q : mv_R} {Q' : Option mw_V → mv_M → Prop} (h : mv_Ev lvl y cc maxL ret av M Q) (hq : ∀ v M', Q v M' → Q' (v.map Sum.inl) M') : mw_Ev lvl y cc maxL ret av M Q' := by
  intro l ad D cA hs hM p e h1 h2 h3 s m args below h4 h5 h6 h7
  obtain ⟨n, o, g1, g2, g3, ⟨⟨v, M', e1, e2, e3, e4⟩, e5⟩, g5⟩ := h l ad D cA hs hM p e h1 h2 h3 s m args below h4 h5 h6 h7
  refine ⟨n, o, g1, g2, g3, ⟨⟨v.map Sum.inl, M', ?_, hq _ _ e2, fun w hw => ?_, e4⟩, e5⟩, g5⟩
  · rw [e1]
    cases v <;> rfl
  · cases v with
    | none => cases hw
    | some u => cases hw; exact e3 u rfl
section MWC
variable {p : Program} {l : Launch} {e : Env} {R : Room} {s : State} {m : MethodId} {args : Array Value} {below : List Frame} {meth : Method} {c : Code} {H : Heap} {locs : List Loc} {nc ns : Nat} {Qm : State → Prop}
theorem mw_callW {ad : Nat → Nat → Nat} {D : va_G} {cA : Nat → ClassId} {Q : Option mw_V → mv_M → Prop} {a : Array Value} {pc : Nat} {ls : Array Slot} {st0 rest : List Value} {A : Nat → Prop}
    (hr : va_Run p l e R s m args below meth c H locs nc ns 0 0 (F0 m pc ls st0) rest (mw_Qc ad D cA Q a) (mv_A ad)) (hS : va_S A s.heap H locs) (hA : ∀ q, mv_A ad q → A q)
    (kk : ∀ (v : Option mw_V) (M' : mv_M) (H' : Heap) (locs' : List Loc), Q v M' → (∀ w, v = some w → mw_vok w) → mv_Mok M' → va_P D vwCl (mv_ws ad cA M') H' → va_S A s.heap H' locs' → W p l e R s m args below meth c H' locs' nc ns Qm (F0 m (pc + 3) ls ((v.map (mw_tr ad)).toList ++ rest))) :
    W p l e R s m args below meth c H locs nc ns Qm (F0 m pc ls st0) := by
  intro T hT X
  obtain ⟨v, st₀, t, T', L, h0, X', hL, e1, e2, ⟨⟨v', M', hv, hq, hvo, hMo, hP⟩, hz, hk⟩, st⟩ := hr T hT X
  cases hv
  rw [h0] at hz hk
  obtain ⟨t2, a1, b1⟩ := kk v' M' T'.heap (locs ++ L) hq hvo hMo (by rw [e1]; exact hP)
    ⟨Nat.le_trans hS.1 (by rw [e1]; exact hz), fun q h1 h2 => by rw [e1, hk q (Nat.lt_of_lt_of_le h1 hS.1) (fun z => h2 (hA q z))]; exact hS.2.1 q h1 h2, fun q hq => by
      rcases List.mem_append.mp hq with h | h
      · exact hS.2.2 q h
      · exact hA _ (hL q h)⟩ T' rfl X'
  exact ⟨t2, st t2 a1, b1⟩
end MWC
def mw_popv : mw_V → (mv_V → Prop) → Prop
  | .inl u, k => k u
  | .inr _, _ => False
def mw_pop : Nat → List mw_V → List mv_V → (List mv_V → List mw_V → Prop) → Prop
  | 0, st, acc, k => k acc st
  | n + 1, v :: st, acc, k => mw_popv v (fun u => mw_pop n st (u :: acc) k)
  | _ + 1, [], _, _ => False
theorem mw_pop_at : ∀ {n : Nat} {st : List mw_V} {acc : List mv_V} {k : List mv_V → List mw_V → Prop}, mw_pop n st acc k → ∃ as st', as.length = n ∧ st = as.reverse.map Sum.inl ++ st' ∧ k (as ++ acc) st'
  | 0, st, acc, k, h => ⟨[], st, rfl, rfl, h⟩
  | n + 1, [], _, _, h => h.elim
  | n + 1, .inr _ :: st, acc, k, h => (show False from h).elim
  | n + 1, .inl u :: st, acc, k, h => by
    obtain ⟨as, st', h1, h2, h3⟩ := mw_pop_at (n := n) (st := st) (acc := u :: acc) (k := k) h
    exact ⟨as ++ [u], st', by simp [h1], by simp [h2], by simpa using h3⟩
def mw_push (K : mw_K) (nx : Nat) (L : mw_L) (st : List mw_V) (v : Option mw_V) (M : mv_M) : Prop := match v with
  | some x => K nx L (x :: st) M
  | none => K nx L st M
def mx_callV (lv : Nat) (y : MethodName) (bytes : ByteArray) (mxL : Nat) (rt : Option FieldType) (C n nx : Nat) : mw_O := fun K L st M => mw_pop n st [] (fun as st1 => match st1 with
  | .inl (.inr (t, j)) :: st' => cond (Nat.ble st'.length 4) (cond (Nat.beq t C) (mv_Ev lv y bytes mxL rt (.inr (t, j) :: as) M (fun v M' => mw_push K nx L st' (v.map Sum.inl) M')) False) False
  | _ => False)
def mx_callS (lv : Nat) (y : MethodName) (bytes : ByteArray) (mxL : Nat) (rt : Option FieldType) (n nx : Nat) : mw_O := fun K L st M => mw_pop n st [] (fun as st' =>
  cond (Nat.ble st'.length 4) (mv_Ev lv y bytes mxL rt as M (fun v M' => mw_push K nx L st' (v.map Sum.inl) M')) False)
/-- a static method whose answer may be raw -/
def mx_callD (lv : Nat) (y : MethodName) (bytes : ByteArray) (mxL : Nat) (rt : Option FieldType) (n nx : Nat) : mw_O := fun K L st M => mw_pop n st [] (fun as st' =>
  cond (Nat.ble st'.length 4) (mw_Ev lv y bytes mxL rt as M (mw_push K nx L st')) False)
def mw_Yk (y : MethodName) (bytes : ByteArray) (mxL : Nat) (rt : Option FieldType) (n : Nat) : Prop :=
  Cond.code y bytes mxL rt ∈ mv_tb ∧ Cond.initialized y.cls ∈ mv_tb ∧ (y.cls ≠ "java/lang/invoke/MethodHandle" ∧ y.cls ≠ "java/lang/invoke/VarHandle") ∧ (parseMethodDescriptor y.desc).map (fun d => d.parameters.length) = some n
theorem mw_Yk.of {y : MethodName} {bytes : ByteArray} {mxL : Nat} {rt : Option FieldType} {n : Nat} (h : mv_Yk y bytes mxL rt n) : mw_Yk y bytes mxL rt n := ⟨h.1, h.2.1, h.2.2.1, h.2.2.2.1⟩
theorem mw_sok_app {as : List mv_V} {st : List mw_V} (h : mw_Sok (as.reverse.map Sum.inl ++ st)) : mv_Sok as ∧ mw_Sok st :=
  ⟨fun v hv => h (.inl v) (List.mem_append_left _ (List.mem_map.mpr ⟨v, List.mem_reverse.mpr hv, rfl⟩)), fun v hv => h v (List.mem_append_right _ hv)⟩
theorem mw_app_tr (ad : Nat → Nat → Nat) (as : List mv_V) (st : List mw_V) : (as.reverse.map Sum.inl ++ st : List mw_V).map (mw_tr ad) = (as.map (mv_tr ad)).reverse ++ st.map (mw_tr ad) := by
  rw [List.map_append, List.map_map, ← List.map_reverse]
  rfl
section MWD
variable {X : mw_X} {pc : Nat}
theorem mxs_stat {K : mw_K} {idx lv n : Nat} {y : MethodName} {bytes : ByteArray} {mxL : Nat} {rt : Option FieldType} (hX : mw_Cx X) (hd : decode (mw_ro X) pc = .ok (.invokestatic idx, 3)) (hl : Cond.methodLink (mw_own X) idx y ∈ mv_tb) (hstc : Cond.static y ∈ mv_tb) (hY : mw_Yk y bytes mxL rt n) (hR : mw_rm lv mxL X)
    {L : mw_L} {as : List mv_V} {st' : List mw_V} {M : mv_M} (hn : as.length = n) (hlen : st'.length ≤ 4) (h : mw_Ev lv y bytes mxL rt as M (mw_push K (pc + 3) L st')) (k : ∀ pc' L' st' M', K pc' L' st' M' → mw_G X pc' L' st' M') : mw_G X pc L (as.reverse.map Sum.inl ++ st') M := by
  obtain ⟨p, l, e, R, s, m, args, below, meth, c, ad, D, cA, A, maxL, nc, ns, Qm, cc, own⟩ := X
  obtain ⟨hx, hb, hml, hown, hts, hK, hN, hD, hA⟩ := hX
  have hd : decode cc pc = .ok (.invokestatic idx, 3) := hd
  obtain ⟨hfr, hlo, hce, hsl⟩ := hR
  intro H locs ls S
  obtain ⟨ha, hb2⟩ := mw_sok_app S.2.2.2.2.1
  have hM := h l ad D cA ha S.2.2.2.2.2
  refine mw_callW (va_runS (Ts := mv_tb) (As := as.map (mv_tr ad)) (rest := st'.map (mw_tr ad)) (bytes := bytes) (maxL := mxL) (ret := rt) (n := n) (index := idx) ⟨hx, hb, hml, hown, hts⟩ hM
    ⟨⟨rfl, rfl, hfr, hlo, pay_in hts (mv_goodIn hY.1), List.mem_cons_self, hts _ hY.1, hts _ hY.2.1, hY.2.2.1, fun sig hs => ?_, hts _ hl⟩, hts _ hstc⟩
    ⟨mv_blind, fun U hU hW => ⟨rfl, by rw [hU]; exact S.1, hD M, va_K.moved hW.alike hK, mv_N.warm hW hN⟩⟩ rfl (by simp [hn]) S.2.2.1.1.1 (mw_app_tr ad as st') (by show 2 * 0 + _ ≤ 8; have := mw_catsum ad st'; omega) hd ⟨hce, hsl⟩) S.2.1 hA (fun v M' H' locs' hQ hv hM' hP' hS' => ?_)
  · have h2 := hY.2.2.2
    rw [hs] at h2
    exact (Option.some.inj h2).symm
  · cases v with
    | none => exact k _ _ _ _ hQ H' locs' ls ⟨hP', hS', S.2.2.1, S.2.2.2.1, hb2, hM'⟩
    | some x => exact k _ _ (x :: st') _ hQ H' locs' ls ⟨hP', hS', S.2.2.1, S.2.2.2.1, hb2.cons (hv x rfl), hM'⟩
theorem mxs_callS {idx lv n : Nat} {y : MethodName} {bytes : ByteArray} {mxL : Nat} {rt : Option FieldType} (hX : mw_Cx X) (hd : decode (mw_ro X) pc = .ok (.invokestatic idx, 3)) (hl : Cond.methodLink (mw_own X) idx y ∈ mv_tb) (hstc : Cond.static y ∈ mv_tb) (hY : mw_Yk y bytes mxL rt n) (hR : mw_rm lv mxL X) :
    mw_Snd X pc (mx_callS lv y bytes mxL rt n (pc + 3)) := by
  intro K L st M h k
  obtain ⟨as, st', hn, hst, h1⟩ := mw_pop_at h
  rw [List.append_nil] at h1
  have h2 := mv_cond h1
  subst hst
  exact mxs_stat hX hd hl hstc hY hR hn (Nat.le_of_ble_eq_true h2.1) (mw_Ev.of h2.2 (fun v M' hq => hq)) k
theorem mxs_callD {idx lv n : Nat} {y : MethodName} {bytes : ByteArray} {mxL : Nat} {rt : Option FieldType} (hX : mw_Cx X) (hd : decode (mw_ro X) pc = .ok (.invokestatic idx, 3)) (hl : Cond.methodLink (mw_own X) idx y ∈ mv_tb) (hstc : Cond.static y ∈ mv_tb) (hY : mw_Yk y bytes mxL rt n) (hR : mw_rm lv mxL X) :
    mw_Snd X pc (mx_callD lv y bytes mxL rt n (pc + 3)) := by
  intro K L st M h k
  obtain ⟨as, st', hn, hst, h1⟩ := mw_pop_at h
  rw [List.append_nil] at h1
  have h2 := mv_cond h1
  subst hst
  exact mxs_stat hX hd hl hstc hY hR hn (Nat.le_of_ble_eq_true h2.1) h2.2 k
theorem mxs_callV {idx lv n C : Nat} {y : MethodName} {bytes : ByteArray} {mxL : Nat} {rt : Option FieldType} {T : u_T} {N : Nat} {ty : Nat → FieldType} (hX : mw_Cx X) (hd : decode (mw_ro X) pc = .ok (.invokevirtual idx, 3)) (hl : Cond.methodLink (mw_own X) idx y ∈ mv_tb) (hin : Cond.instanceMethod y ∈ mv_tb) (hse : Cond.selects y.cls y y ∈ mv_tb) (hY : mw_Yk y bytes mxL rt n) (hI : mv_CI C y.cls T N ty) (hR : mw_rm lv mxL X) :
    mw_Snd X pc (mx_callV lv y bytes mxL rt C n (pc + 3)) := by
  obtain ⟨p, l, e, R, s, m, args, below, meth, c, ad, D, cA, A, maxL, nc, ns, Qm, cc, own⟩ := X
  obtain ⟨hx, hb, hml, hown, hts, hK, hN, hD, hA⟩ := hX
  have hd : decode cc pc = .ok (.invokevirtual idx, 3) := hd
  obtain ⟨hfr, hlo, hce, hsl⟩ := hR
  intro K L st M h k H locs ls S
  obtain ⟨as, st1, hn, hst, h⟩ := mw_pop_at h
  rw [List.append_nil] at h
  match st1, hst, h with
  | .inl (.inr (t, j)) :: st', hst, hh =>
    have h1 := mv_cond hh
    have hlen := Nat.le_of_ble_eq_true h1.1
    have h2 := mv_cond h1.2
    have ht := Nat.eq_of_beq_eq_true h2.1
    have h3 := h2.2
    subst ht
    have hso := S.2.2.2.2.1
    subst hst
    obtain ⟨ha, hb2⟩ := mw_sok_app hso
    have hv0 : mv_vok (.inr (t, j)) := hb2.hd
    obtain ⟨q0, hq, -⟩ := mv_ws_get (hD M) (mv_IX_mem hv0.1 hv0.2)
    rw [mv_cell_obj hI.1] at hq
    have hM := (mw_Ev.of h3 (Q' := mw_push K (pc + 3) L st') (fun v M' hq => hq)) l ad D cA (ha.cons hv0) S.2.2.2.2.2
    refine mw_callW (va_runV (Ts := mv_tb) (b := ad t j) (As := as.map (mv_tr ad)) (rest := st'.map (mw_tr ad)) (C := y.cls) (bytes := bytes) (maxL := mxL) (ret := rt) (n := n) (index := idx) ⟨hx, hb, hml, hown, hts⟩ hM
      ⟨⟨rfl, rfl, hfr, hlo, pay_in hts (mv_goodIn hY.1), List.mem_cons_self, hts _ hY.1, hts _ hY.2.1, hY.2.2.1, fun sig hs => ?_, hts _ hl⟩, hts _ hin, hts _ hse⟩
      ⟨mv_blind, va_recv hK S.1 hI.2.1 hq, fun U hU hW => ⟨rfl, by rw [hU]; exact S.1, hD M, va_K.moved hW.alike hK, mv_N.warm hW hN⟩⟩ rfl (by simp [hn]) S.2.2.1.1.1 (mw_app_tr ad as _) (by show 2 * 0 + _ ≤ 8; have := mw_catsum ad st'; omega) hd ⟨hce, hsl⟩) S.2.1 hA (fun v M' H' locs' hQ hv hM' hP' hS' => ?_)
    · have h2 := hY.2.2.2
      rw [hs] at h2
      exact (Option.some.inj h2).symm
    · cases v with
      | none => exact k _ _ _ _ hQ H' locs' ls ⟨hP', hS', S.2.2.1, S.2.2.2.1, hb2.tl, hM'⟩
      | some x => exact k _ _ (x :: st') _ hQ H' locs' ls ⟨hP', hS', S.2.2.1, S.2.2.2.1, hb2.tl.cons (hv x rfl), hM'⟩
end MWD
-- the script's cell
set_option maxRecDepth 100000 in
theorem met_cell {l : Launch} {b L : Nat} {xs : Nat → Int32} {k : Int} (hk : 0 ≤ k ∧ k ≤ 1000) (hL : L ≤ 1000) : Met l yL_cell (Cond.code yL_cell cL_cell 2 (some .int) :: mv_tb) (mv_rm 0) (fun a U => a = ([.ref b, .int (Int32.ofInt k)] : List Value).toArray ∧ va_X b L xs U U.heap) (fun _ st oc t => (∃ r : Int32, oc = .returned (some (.int r))) ∧ t.heap = st.heap) 0 0 (fun _ => False) := by
  refine Met.ofW (cc := cL_cell) (maxL := 2) (ret := some .int) (by decide +kernel) rfl ?_
  intro p e s m args below meth c s₁ B hml hv
  obtain ⟨rfl, hX⟩ := hv
  have hbl : b < s.heap.size := by
    obtain ⟨scr, h1, -⟩ := hX
    exact (Array.getElem?_eq_some_iff.mp h1).1
  have hl := lv_entry ([.ref b, .int (Int32.ofInt k)]) (n := 2) (Nat.le_of_ble_eq_true rfl)
  rw [lg_entry_eq]
  generalize (lg_sl ([.ref b, .int (Int32.ofInt k)]) ++ List.replicate (2 - (lg_sl ([.ref b, .int (Int32.ofInt k)])).length) Slot.unset).toArray = ls at hl ⊢
  have hl : lv_has ls 2 [(0, .ref b), (1, .int (Int32.ofInt k))] := hl
  have hret : ∀ (r : Int32), W p l e (mv_rm 0) s m ([.ref b, .int (Int32.ofInt k)] : List Value).toArray below meth c s.heap [] 0 0 (MQ below (fun _ st oc t => (∃ r : Int32, oc = .returned (some (.int r))) ∧ t.heap = st.heap) ([.ref b, .int (Int32.ofInt k)] : List Value).toArray s 0 0 (fun _ => False)) (F0 m 24 ls [.int r]) := fun r =>
    W.iret B.exec B.bytes B.returns (fun t ht _ => ⟨⟨r, rfl⟩, ht⟩) (fun q hq => by cases hq) dL_cell_24 B.notSynchronized
  refine lv_iload_n B.exec B.bytes dL_cell_0 rfl (lv_at hl 1 rfl) ?_
  refine lv_aload_n B.exec B.bytes dL_cell_1 rfl (lv_at hl 0 rfl) ?_
  refine va_slen (A := fun _ => False) B.exec B.bytes hX hbl (fun z => z) va_S.rf dL_cell_2 ?_
  refine lv_icmp_ge (tgt := 12) B.exec B.bytes dL_cell_3 (by decide) (fun c1 => ?_) (fun c1 => ?_)
  · refine lv_sipush B.exec B.bytes dL_cell_12 rfl ?_
    refine lv_iload_n B.exec B.bytes dL_cell_15 rfl (lv_at hl 1 rfl) ?_
    refine lv_iconst B.exec B.bytes dL_cell_16 rfl ?_
    refine lv_iadd B.exec B.bytes dL_cell_17 ?_
    refine lv_imul B.exec B.bytes dL_cell_18 ?_
    refine lv_iload_n B.exec B.bytes dL_cell_19 rfl (lv_at hl 1 rfl) ?_
    refine lv_bipush B.exec B.bytes dL_cell_20 rfl ?_
    refine lv_iadd B.exec B.bytes dL_cell_22 ?_
    refine lv_imul B.exec B.bytes dL_cell_23 ?_
    exact hret _
  · have hlt : k < (L : Int) := by
      refine Int.not_le.mp (fun z => c1 ?_)
      have e : Int32.ofNat L = Int32.ofInt (L : Int) := rfl
      rw [e]
      exact (mv_ile (by omega) (by omega)).mpr z
    refine lv_aload_n B.exec B.bytes dL_cell_6 rfl (lv_at hl 0 rfl) ?_
    refine lv_iload_n B.exec B.bytes dL_cell_7 rfl (lv_at hl 1 rfl) ?_
    refine va_sld (A := fun _ => False) B.exec B.bytes hX hbl (fun z => z) va_S.rf (mv_vin (by omega) (by omega)) dL_cell_8 ?_
    refine lv_goto (tgt := 24) B.exec B.bytes dL_cell_9 (by decide) ?_
    exact hret _
def mx_cell (b nx : Nat) : mw_O := fun K L st M => match st with
  | .inl (.inl k) :: .inr (.ref b') :: st' => b' = b ∧ (0 ≤ k ∧ k ≤ 1000) ∧ cond (Nat.ble st'.length 4) (∀ r : Int, -2147483648 ≤ r ∧ r ≤ 2147483647 → K nx L (.inl (.inl r) :: st') M) False
  | _ => False
/-- the script stands ahead of the world -/
def mw_scr (b : Nat) : mw_X → Prop
  | (_, _, _, _, s, _, _, _, _, _, _, _, _, A, _, _, _, _, _, _) => ∃ (L : Nat) (xs : Nat → Int32), va_X b L xs s s.heap ∧ L ≤ 1000 ∧ b < s.heap.size ∧ ¬ A b
theorem mxs_cell {X : mw_X} {pc idx b : Nat} (hX : mw_Cx X) (hd : decode (mw_ro X) pc = .ok (.invokestatic idx, 3)) (hl : Cond.methodLink (mw_own X) idx yL_cell ∈ mv_tb) (hstc : Cond.static yL_cell ∈ mv_tb) (hY : mw_Yk yL_cell cL_cell 2 (some .int) 2) (hR : mw_rm 0 2 X) (hsc : mw_scr b X) :
    mw_Snd X pc (mx_cell b (pc + 3)) := by
  obtain ⟨p, l, e, R, s, m, args, below, meth, c, ad, D, cA, A, maxL, nc, ns, Qm, cc, own⟩ := X
  obtain ⟨hx, hb, hml, hown, hts, hK, hN, hD, hA⟩ := hX
  have hd : decode cc pc = .ok (.invokestatic idx, 3) := hd
  obtain ⟨hfr, hlo, hce, hsl⟩ := hR
  obtain ⟨LL, xs, hsX, hLL, hbl, hbA⟩ := hsc
  intro K L st M h kk H locs ls S
  match st, h, S with
  | .inl (.inl k) :: .inr (.ref b') :: st', h, S =>
    obtain ⟨rfl, hk, h⟩ := h
    replace h := mv_cond h
    have hlen := Nat.le_of_ble_eq_true h.1
    have hXH : va_X b' LL xs s H := hsX.kept (S.2.1.2.1 b' hbl hbA)
    have hr := va_runS (Ts := mv_tb) (p := p) (l := l) (e := e) (R := R) (s := s) (m := m) (args := args) (below := below) (meth := meth) (c := c) (H := H) (locs := locs) (cells := nc) (slots := ns) (g := F0 m pc ls ((.inl (.inl k) :: .inr (.ref b') :: st' : List mw_V).map (mw_tr ad))) (As := [.ref b', .int (Int32.ofInt k)]) (rest := st'.map (mw_tr ad)) (bytes := cL_cell) (maxL := 2) (ret := some .int) (n := 2) (index := idx) ⟨hx, hb, hml, hown, hts⟩ (met_cell (l := l) (b := b') (xs := xs) hk hLL)
      ⟨⟨rfl, rfl, hfr, hlo, pay_in hts (mv_goodIn hY.1), List.mem_cons_self, hts _ hY.1, hts _ hY.2.1, hY.2.2.1, fun sig hs => by
        have h2 := hY.2.2.2
        rw [hs] at h2
        exact (Option.some.inj h2).symm, hts _ hl⟩, hts _ hstc⟩
      ⟨fun a U g mk q => ⟨q.1, va_X.moved (u := U) (U := U.calling g mk a) (Vm.Alike.refl U.vm) q.2⟩, fun U hU hW => ⟨rfl, by rw [hU]; exact va_X.moved hW.alike hXH⟩⟩ rfl rfl S.2.2.1.1.1 rfl (by show 2 * 0 + _ ≤ 8; have := mw_catsum ad st'; omega) hd ⟨hce, hsl⟩
    intro T hT XX
    obtain ⟨v, st₀, t, T', L1, h0, X', hL, e1, e2, ⟨⟨r, hv⟩, hheap⟩, stp⟩ := hr T hT XX
    cases hv
    have S' : mw_St s ad D cA A maxL M L (.inl (.inl r.toInt) :: st') H (locs ++ L1) ls := ⟨S.1, ⟨S.2.1.1, S.2.1.2.1, fun q hq => by
      rcases List.mem_append.mp hq with z | z
      · exact S.2.1.2.2 q z
      · exact (hL q z).elim⟩, S.2.2.1, S.2.2.2.1, S.2.2.2.2.1.tl.tl.cons (show mw_vok (.inl (.inl r.toInt)) from mv_toIntR r), S.2.2.2.2.2⟩
    have hW := kk _ _ _ _ (h.2 r.toInt (mv_toIntR r)) H (locs ++ L1) ls S'
    have er : mw_tr ad (.inl (.inl r.toInt)) = .int r := by
      show Value.int (Int32.ofInt r.toInt) = _
      rw [Int32.ofInt_toInt]
    rw [List.map_cons, er] at hW
    obtain ⟨t2, a1, b1⟩ := hW T' (by rw [e1, hheap, h0]) X'
    exact ⟨t2, stp t2 a1, b1⟩
-- walking
def mw_look : List (Nat × mw_O) → Nat → mw_O
  | [], _ => mx_no
  | (q, o) :: r, pc => bif Nat.beq q pc then o else mw_look r pc
def mw_run (tab : List (Nat × mw_O)) (cut : List Nat) (K : mw_K) : Nat → mw_K
  | 0, pc, L, st, M => K pc L st M
  | n + 1, pc, L, st, M => mw_look tab pc (fun pc' L' st' M' => bif mv_in cut pc' then K pc' L' st' M' else mw_run tab cut K n pc' L' st' M') L st M
theorem mw_look_snd {X : mw_X} : ∀ {tab : List (Nat × mw_O)}, (∀ x ∈ tab, mw_Snd X x.1 x.2) → ∀ pc, mw_Snd X pc (mw_look tab pc)
  | [], _, _ => mxs_no
  | (q, o) :: r, h, pc => by
    unfold mw_look
    cases hb : Nat.beq q pc with
    | true =>
      have := Nat.eq_of_beq_eq_true hb
      subst this
      exact h (q, o) List.mem_cons_self
    | false => exact mw_look_snd (fun x hx => h x (List.mem_cons_of_mem _ hx)) pc
theorem mw_run_G {X : mw_X} {tab : List (Nat × mw_O)} {cut : List Nat} (ht : ∀ x ∈ tab, mw_Snd X x.1 x.2) :
    ∀ (n pc : Nat) (L : mw_L) (st : List mw_V) (M : mv_M), mw_run tab cut (mw_G X) n pc L st M → mw_G X pc L st M
  | 0, _, _, _, _, h => h
  | n + 1, pc, L, st, M, h => by
    refine mw_look_snd ht pc _ L st M h (fun pc' L' st' M' h' => ?_)
    cases hc : mv_in cut pc' with
    | true =>
      rw [hc] at h'
      exact h'
    | false =>
      rw [hc] at h'
      exact mw_run_G ht n pc' L' st' M' h'
