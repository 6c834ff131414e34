/-! The law, between its instructions. -/
theorem lq_frZ {M M' : mv_M} {F : qg_F} (h : mv_of1 qf_X M M') (hZ : rr_Z M F) : rr_Z M' F := by
  have e11 : M'.1 11 = M.1 11 := funext (fun j => funext (fun k => h 11 j k (fun z => z.1 rfl)))
  have e24 : M'.1 24 = M.1 24 := funext (fun j => funext (fun k => h 24 j k (fun z => absurd z.2 (by decide))))
  have e26 : M'.1 26 = M.1 26 := funext (fun j => funext (fun k => h 26 j k (fun z => absurd z.2 (by decide))))
  have e27 : M'.1 27 = M.1 27 := funext (fun j => funext (fun k => h 27 j k (fun z => absurd z.2 (by decide))))
  unfold rr_Z rr_H rr_Tx at *
  rw [e11, e24, e26, e27]
  exact hZ
theorem lq_frX {M M' : mv_M} {F : qg_F} (h : rr_of rf_X M M') (hX : qr_X M F) : qr_X M' F := by
  obtain ⟨f, g⟩ := M
  obtain ⟨f', g'⟩ := M'
  obtain ⟨h1, h2⟩ := h
  have h2 : g' = g := h2
  subst h2
  have hf : ∀ t, ¬ (t = 11 ∨ 24 ≤ t) → f' t = f t := fun t ht => funext (fun j => funext (fun k => h1 t j k ht))
  have e : f' = fun t => if t = 11 ∨ 24 ≤ t then f' t else f t := funext (fun t => by
    by_cases ht : t = 11 ∨ 24 ≤ t
    · rw [if_pos ht]
    · rw [if_neg ht]; exact hf t ht)
  rw [e]
  exact hX
def lq_I (M : mv_M) (F : qg_F) : Prop := qr_X M F ∧ rr_Z M F ∧ qg_wF F
def lq_x (xs : Nat → Int32) (j : Nat) : Int := (xs j).toInt
theorem lq_xr {xs : Nat → Int32} {j : Nat} : -2147483648 ≤ lq_x xs j ∧ lq_x xs j ≤ 2147483647 := by
  have h1 := Int32.le_toInt (xs j)
  have h2 := Int32.toInt_lt (xs j)
  unfold lq_x
  omega
theorem lq_xo {xs : Nat → Int32} {j : Nat} : Int32.ofInt (lq_x xs j) = xs j := Int32.ofInt_toInt (xs j)
section LQ
variable {p : Program} {l : Launch} {e : Env} {s : State} {m : MethodId} {below : List Frame} {meth : Method} {c : Code} {b L : Nat} {xs : Nat → Int32} {D : va_G} {cA : Nat → ClassId} {ad : Nat → Nat → Nat}
/-- the law between two instructions: the two worlds' memory, the place in the script -/
def lq_G (p : Program) (l : Launch) (e : Env) (s : State) (m : MethodId) (below : List Frame) (meth : Method) (c : Code) (b : Nat) (D : va_G) (cA : Nat → ClassId) (ad : Nat → Nat → Nat) (pc : Nat) (st : List mv_V) (M : mv_M) (i : Nat) : Prop :=
  ∀ (H : Heap) (locs : List Loc) (ls : Array Slot), va_P D vwCl (mv_ws ad cA M) H → va_S (fun q : Nat => s.heap.size ≤ q) s.heap H locs → lv_has ls 4 [(0, .ref b), (1, .ref (ad 10 0)), (2, .ref (ad 11 0)), (3, .int (Int32.ofInt (i : Int)))] → mv_Mok M → mv_Sok st →
    W p l e room_1 s m #[Value.ref b] below meth c H locs 578 12806 (lw_Z below #[Value.ref b] s) (F0 m pc ls (st.map (mv_tr ad)))
def lq_C (p : Program) (_l : Launch) (_e : Env) (s : State) (m : MethodId) (_below : List Frame) (meth : Method) (c : Code) (b L : Nat) (xs : Nat → Int32) (D : va_G) (cA : Nat → ClassId) (ad : Nat → Nat → Nat) : Prop :=
  lw_At p s m meth c b L xs ∧ L ≤ 2560 ∧ va_K D vwCl (mv_tys cA) s ∧ mv_N s ∧ va_D (mv_A ad) (mv_ws ad cA mg_M0) ∧ ∀ q, mv_A ad q → s.heap.size ≤ q
theorem lq_a1 (hC : lq_C p l e s m below meth c b L xs D cA ad) {pc : Nat} {st : List mv_V} {M : mv_M} {i : Nat} (hd : decode code pc = .ok (.aload_n 1, 1)) (h : lq_G p l e s m below meth c b D cA ad (pc + 1) (.inr (10, 0) :: st) M i) : lq_G p l e s m below meth c b D cA ad pc st M i :=
  fun H locs ls hP hS hl hM hs => lv_aload_n hC.1.1 hC.1.2.1 hd rfl (lv_at hl 1 rfl) (h H locs ls hP hS hl hM (hs.cons ⟨by decide, by decide⟩))
theorem lq_a2 (hC : lq_C p l e s m below meth c b L xs D cA ad) {pc : Nat} {st : List mv_V} {M : mv_M} {i : Nat} (hd : decode code pc = .ok (.aload_n 2, 1)) (h : lq_G p l e s m below meth c b D cA ad (pc + 1) (.inr (11, 0) :: st) M i) : lq_G p l e s m below meth c b D cA ad pc st M i :=
  fun H locs ls hP hS hl hM hs => lv_aload_n hC.1.1 hC.1.2.1 hd rfl (lv_at hl 2 rfl) (h H locs ls hP hS hl hM (hs.cons ⟨by decide, by decide⟩))
theorem lq_arg {kk : Nat} (hC : lq_C p l e s m below meth c b L xs D cA ad) {pc : Nat} {st : List mv_V} {M : mv_M} {i : Nat} (h0 : decode code pc = .ok (.aload_n 0, 1)) (h1 : decode code (pc + 1) = .ok (.iload_n 3, 1)) (h2 : decode code (pc + 2) = .ok (.iconst (kk : Int), 1)) (h3 : decode code (pc + 3) = .ok (.iadd, 1)) (h4 : decode code (pc + 4) = .ok (.iaload, 1))
    (hi : i + kk < L) (h : lq_G p l e s m below meth c b D cA ad (pc + 5) (.inl (lq_x xs (i + kk)) :: st) M i) : lq_G p l e s m below meth c b D cA ad pc st M i := by
  intro H locs ls hP hS hl hM hs
  obtain ⟨⟨hx, hb, hr, hml, hown, hts, hX, hbl, hlocks, hgv⟩, hL, hK, hN, hD, hA⟩ := hC
  have hbA : ¬ (fun q : Nat => s.heap.size ≤ q) b := Nat.not_le.mpr hbl
  refine lv_aload_n hx hb h0 rfl (lv_at hl 0 rfl) ?_
  refine lv_iload_n hx hb h1 rfl (lv_at hl 3 rfl) ?_
  refine lv_iconst hx hb h2 rfl ?_
  refine lv_iadd hx hb h3 ?_
  rw [mv_add]
  refine va_sld hx hb hX hbl hbA hS (mv_vin (by omega) (by omega)) h4 ?_
  have h5 := h H locs ls hP hS hl hM (hs.cons (lq_xr (xs := xs) (j := i + kk)))
  rw [mv_clamp (by omega), show ((i : Int) + (kk : Int)).toNat = i + kk by omega]
  have h6 : (((.inl (lq_x xs (i + kk)) : mv_V) :: st).map (mv_tr ad)) = .int (xs (i + kk)) :: st.map (mv_tr ad) := by
    show Value.int (Int32.ofInt (lq_x xs (i + kk))) :: _ = _
    rw [lq_xo]
  rw [h6] at h5
  exact h5
theorem lq_eq {tgt : Nat} {off : Int} (hC : lq_C p l e s m below meth c b L xs D cA ad) {pc : Nat} {st : List mv_V} {M : mv_M} {i : Nat} {x y : Int} (hd : decode code pc = .ok (.if_icmp .eq off, 3)) (ht : (pc : Int) + off = (tgt : Int)) (hxy : x = y) (h : lq_G p l e s m below meth c b D cA ad tgt st M i) : lq_G p l e s m below meth c b D cA ad pc (.inl y :: .inl x :: st) M i :=
  fun H locs ls hP hS hl hM hs => lv_icmp_eq hC.1.1 hC.1.2.1 hd ht (fun _ => h H locs ls hP hS hl hM hs.tl.tl) (fun z => absurd (by rw [hxy]) z)
theorem lq_callW {Q : mv_R} {a : Array Value} {pc : Nat} {ls : Array Slot} {st0 rest : List Value} {H : Heap} {locs : List Loc} {nc ns : Nat} {R : Room} {Qm : State → Prop}
    (hr : va_Run p l e R s m #[Value.ref b] below meth c H locs nc ns 0 0 (F0 m pc ls st0) rest (mv_Qc ad D cA Q a) (mv_A ad)) (hS : va_S (fun q : Nat => s.heap.size ≤ q) s.heap H locs) (hA : ∀ q, mv_A ad q → s.heap.size ≤ q)
    (kk : ∀ (v : Option mv_V) (M' : mv_M) (H' : Heap) (locs' : List Loc), Q v M' → (∀ w, v = some w → mv_vok w) → mv_Mok M' → va_P D vwCl (mv_ws ad cA M') H' → va_S (fun q : Nat => s.heap.size ≤ q) s.heap H' locs' → W p l e R s m #[Value.ref b] below meth c H' locs' nc ns Qm (F0 m (pc + 3) ls ((v.map (mv_tr ad)).toList ++ rest))) :
    W p l e R s m #[Value.ref b] below meth c H locs nc ns Qm (F0 m pc ls st0) := by
  intro T hT X
  obtain ⟨v, st₀, t, T', L, h0, X', hL, e1, e2, ⟨⟨v', M', hv, hq, hvo, hMo, hP⟩, hz, hk⟩, st⟩ := hr T hT X
  cases hv
  rw [h0] at hz hk
  obtain ⟨t2, a1, b1⟩ := kk v' M' T'.heap (locs ++ L) hq hvo hMo (by rw [e1]; exact hP)
    ⟨Nat.le_trans hS.1 (by rw [e1]; exact hz), fun q h1 h2 => by rw [e1, hk q (Nat.lt_of_lt_of_le h1 hS.1) (fun z => h2 (hA q z))]; exact hS.2.1 q h1 h2, fun q hq => by
      rcases List.mem_append.mp hq with h | h
      · exact hS.2.2 q h
      · exact hA _ (hL q h)⟩ T' rfl X'
  exact ⟨t2, st t2 a1, b1⟩
theorem lq_call (hC : lq_C p l e s m below meth c b L xs D cA ad) {pc idx lv n Cn mxL N : Nat} {y : MethodName} {bytes : ByteArray} {T : u_T} {ty : Nat → FieldType} {as st' : List mv_V} {st : List mv_V} {M : mv_M} {i : Nat}
    (hd : decode code pc = .ok (.invokevirtual idx, 3)) (hl : Cond.methodLink R_law idx y ∈ mv_tb) (hin : Cond.instanceMethod y ∈ mv_tb) (hse : Cond.selects y.cls y y ∈ mv_tb) (hY : mv_Yk y bytes mxL (some .int) n) (hI : mv_CI Cn y.cls T N ty) (hlv : lv ≤ 9) (hn : as.length = n) (hC0 : Cn < 33 ∧ 0 < mv_cnt Cn) (hst : st = as.reverse ++ .inr (Cn, 0) :: st') (hlen : st'.length ≤ 1)
    (h : mv_Ev lv y bytes mxL (some .int) (.inr (Cn, 0) :: as) M (fun v M' => ∃ r, v = some (.inl r) ∧ lq_G p l e s m below meth c b D cA ad (pc + 3) (.inl r :: st') M' i)) : lq_G p l e s m below meth c b D cA ad pc st M i := by
  intro H locs ls hP hS hl' hM hs
  subst hst
  obtain ⟨⟨hx, hb, hr, hml, hown, hts0, hX, hbl, hlocks, hgv⟩, hL, hK, hN, hD0, hA⟩ := hC
  have hts : ∀ w ∈ mv_tb, w.before #[Value.ref b] s = true := fun w hw => hts0 w (List.mem_filter.mp hw).1
  have hD : va_D (mv_A ad) (mv_ws ad cA M) := mv_D_any hD0
  obtain ⟨ha, hb2⟩ := mv_sok_app hs
  obtain ⟨q0, hq, -⟩ := mv_ws_get hD (mv_IX_mem hC0.1 hC0.2)
  rw [mv_cell_obj hI.1] at hq
  have hMet := h l ad D cA (ha.cons hb2.hd) hM
  refine lq_callW (va_runV (Ts := mv_tb) (b := ad Cn 0) (As := as.map (mv_tr ad)) (rest := st'.map (mv_tr ad)) (C := y.cls) (bytes := bytes) (maxL := mxL) (ret := some .int) (n := n) (index := idx) ⟨hx, hb, hml, hown, hts⟩ hMet
    ⟨⟨rfl, rfl, by show lv + 1 + 1 ≤ 11; omega, by show 8 + (mxL + 11) + (40 + 30 * lv) ≤ 410; have := hY.2.2.2.2; omega, pay_in hts (mv_goodIn hY.1), List.mem_cons_self, hts _ hY.1, hts _ hY.2.1, hY.2.2.1, fun sig hs => ?_, hts _ hl⟩, hts _ hin, hts _ hse⟩
    ⟨mv_blind, va_recv hK hP hI.2.1 hq, fun U hU hW => ⟨rfl, by rw [hU]; exact hP, hD, va_K.moved hW.alike hK, mv_N.warm hW hN⟩⟩ rfl (by simp [hn]) hl'.1 (by simp [mv_tr]) (by show 2 * 0 + _ ≤ 8; rw [mv_catsum]; omega) hd ⟨by decide, by decide⟩) hS hA (fun v M' H' locs' hQ hv hM' hP' hS' => ?_)
  · have h2 := hY.2.2.2.1
    rw [hs] at h2
    exact (Option.some.inj h2).symm
  · obtain ⟨r, hr2, hG⟩ := hQ
    subst hr2
    exact hG H' locs' ls hP' hS' hl' hM' (hb2.tl.cons (hv _ rfl))
end LQ
