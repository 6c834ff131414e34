/-! The growing machine: each operator is sound. -/
theorem va_RA_inj {U : State} {c1 c2 : ClassId} {ty : FieldType} (h : va_RA U c1 ty) (h' : va_RA U c2 ty) : c2 = c1 := by
  cases ty with
  | object C =>
    obtain ⟨_, _, _, _, _, h4⟩ := h
    obtain ⟨_, _, _, _, _, k4⟩ := h'
    rw [h4] at k4
    exact (Option.some.inj k4).symm
  | _ =>
    have h4 : U.vm.findClass _ = some c1 := h
    have k4 : U.vm.findClass _ = some c2 := h'
    rw [h4] at k4
    exact (Option.some.inj k4).symm
theorem mg_arr {D : va_G} {cA : Nat → ClassId} {s : State} {c1 : ClassId} {ty : FieldType} {i : Nat} (hK : va_K D vwCl (mv_tys cA) s) (hK' : va_K D vwCl (mv_tys cA ++ [(c1, ty)]) s) (hi : i < 7) (ht : mv_at i = ty) : c1 = cA i := by
  have h1 := (hK.2 i (cA i, mv_at i) (mv_tys_at cA hi)).2
  have hl : (mv_tys cA).length = 7 := by simp [mv_tys]
  have h2 := (hK'.2 7 (c1, ty) (by rw [List.getElem?_append_right (by omega), hl]; rfl)).2
  rw [ht] at h1
  exact va_RA_inj h1 h2
section MGS
variable {cc : ByteArray} {maxL : Nat} {own : String} {lvl C S pc : Nat}
theorem nS_no : mg_Snd cc maxL own lvl C S pc ng_no := fun _ _ _ _ _ _ _ _ _ _ _ _ _ _ _ _ _ _ _ _ _ _ _ _ h => h.elim
theorem nS_iconst {n : Int} (hd : decode cc pc = .ok (.iconst n, 1)) (hn : -2147483648 ≤ n ∧ n ≤ 2147483647) : mg_Snd cc maxL own lvl C S pc (ng_const n (pc + 1)) := by
  intro p l e s m args below meth c D cA A K Q G0 L st G nc ns H locs ls X h SS kk
  obtain ⟨hP, hD, hS, hF, hL, hSt, hok, hex⟩ := SS
  exact lv_iconst X.1.1 X.1.2.1 hd rfl (kk _ _ (.inl n :: st) _ _ _ _ _ _ h ⟨hP, hD, hS, hF, hL, hSt.cons hn, hok, hex⟩)
theorem nS_bipush {n : Int} (hd : decode cc pc = .ok (.bipush n, 2)) (hv : (Int8.ofInt n).toInt32 = Int32.ofInt n) (hn : -2147483648 ≤ n ∧ n ≤ 2147483647) : mg_Snd cc maxL own lvl C S pc (ng_const n (pc + 2)) := by
  intro p l e s m args below meth c D cA A K Q G0 L st G nc ns H locs ls X h SS kk
  obtain ⟨hP, hD, hS, hF, hL, hSt, hok, hex⟩ := SS
  exact lv_bipush X.1.1 X.1.2.1 hd hv (kk _ _ (.inl n :: st) _ _ _ _ _ _ h ⟨hP, hD, hS, hF, hL, hSt.cons hn, hok, hex⟩)
theorem nS_sipush {n : Int} (hd : decode cc pc = .ok (.sipush n, 3)) (hv : (Int16.ofInt n).toInt32 = Int32.ofInt n) (hn : -2147483648 ≤ n ∧ n ≤ 2147483647) : mg_Snd cc maxL own lvl C S pc (ng_const n (pc + 3)) := by
  intro p l e s m args below meth c D cA A K Q G0 L st G nc ns H locs ls X h SS kk
  obtain ⟨hP, hD, hS, hF, hL, hSt, hok, hex⟩ := SS
  exact lv_sipush X.1.1 X.1.2.1 hd hv (kk _ _ (.inl n :: st) _ _ _ _ _ _ h ⟨hP, hD, hS, hF, hL, hSt.cons hn, hok, hex⟩)
theorem nS_iload_n {q : Fin 4} {i : Nat} (hd : decode cc pc = .ok (.iload_n q, 1)) (hi : (q : Nat) = i) : mg_Snd cc maxL own lvl C S pc (ng_iload i (pc + 1)) := by
  intro p l e s m args below meth c D cA A K Q G0 L st G nc ns H locs ls X h SS kk
  obtain ⟨hP, hD, hS, hF, hL, hSt, hok, hex⟩ := SS
  obtain ⟨v, hv, h⟩ := mv_get_at h
  rcases v with x | ⟨t, j⟩
  · exact lv_iload_n X.1.1 X.1.2.1 hd hi (hF.at hv) (kk _ _ (.inl x :: st) _ _ _ _ _ _ h ⟨hP, hD, hS, hF, hL, hSt.cons (hL _ _ hv), hok, hex⟩)
  · exact h.elim
theorem nS_aload_n {q : Fin 4} {i : Nat} (hd : decode cc pc = .ok (.aload_n q, 1)) (hi : (q : Nat) = i) : mg_Snd cc maxL own lvl C S pc (ng_aload i (pc + 1)) := by
  intro p l e s m args below meth c D cA A K Q G0 L st G nc ns H locs ls X h SS kk
  obtain ⟨hP, hD, hS, hF, hL, hSt, hok, hex⟩ := SS
  obtain ⟨v, hv, h⟩ := mv_get_at h
  rcases v with x | ⟨t, j⟩
  · exact h.elim
  · exact lv_aload_n X.1.1 X.1.2.1 hd hi (hF.at hv) (kk _ _ (.inr (t, j) :: st) _ _ _ _ _ _ h ⟨hP, hD, hS, hF, hL, hSt.cons (hL _ _ hv), hok, hex⟩)
theorem nS_istore_n {q : Fin 4} {i : Nat} (hd : decode cc pc = .ok (.istore_n q, 1)) (hi : (q : Nat) = i) : mg_Snd cc maxL own lvl C S pc (ng_istore i (pc + 1)) := by
  intro p l e s m args below meth c D cA A K Q G0 L st G nc ns H locs ls X h SS kk
  obtain ⟨hP, hD, hS, hF, hL, hSt, hok, hex⟩ := SS
  match st, h, hSt, kk with
  | .inl x :: st', h, hSt, kk =>
    obtain ⟨hl, h⟩ := mv_set_at h
    refine lv_istore_n X.1.1 X.1.2.1 hd hi hF.1 (Nat.lt_of_lt_of_le hl hF.2) rfl (fun ls' hl' => ?_)
    exact kk _ _ st' _ _ _ _ _ _ h ⟨hP, hD, hS, hF.put (v := .inl x) hl', hL.set hSt.hd, hSt.tl, hok, hex⟩
theorem nS_iinc {i : Nat} {n : Int} (hd : decode cc pc = .ok (.iinc i n, 3)) : mg_Snd cc maxL own lvl C S pc (ng_iinc i n (pc + 3)) := by
  intro p l e s m args below meth c D cA A K Q G0 L st G nc ns H locs ls X h SS kk
  obtain ⟨hP, hD, hS, hF, hL, hSt, hok, hex⟩ := SS
  obtain ⟨v, hv, h⟩ := mv_get_at h
  rcases v with x | ⟨t, j⟩
  · obtain ⟨hr, h⟩ := h
    obtain ⟨hl, h⟩ := mv_set_at h
    obtain ⟨q, hq⟩ := List.getElem?_of_mem (mv_pr_mem.mpr ⟨_, hv, rfl⟩ : (i, mv_tr G.2.1 (.inl x)) ∈ mv_pr G.2.1 L)
    refine lv_iinc (x := Int32.ofInt x) X.1.1 X.1.2.1 hd hF.1 hq (mv_add x n) (Nat.lt_of_lt_of_le hl hF.2) rfl (fun ls' hl' => ?_)
    exact kk _ _ st _ _ _ _ _ _ h ⟨hP, hD, hS, hF.put (v := .inl (x + n)) hl', hL.set hr, hSt, hok, hex⟩
  · exact h.elim
theorem nS_dup (hd : decode cc pc = .ok (.dup, 1)) : mg_Snd cc maxL own lvl C S pc (ng_dup (pc + 1)) := by
  intro p l e s m args below meth c D cA A K Q G0 L st G nc ns H locs ls X h SS kk
  obtain ⟨hP, hD, hS, hF, hL, hSt, hok, hex⟩ := SS
  match st, h, hSt, kk with
  | v :: st', h, hSt, kk =>
    exact lv_dup X.1.1 X.1.2.1 hd (mv_tr_cat G.2.1 v) (kk _ _ (v :: v :: st') _ _ _ _ _ _ h ⟨hP, hD, hS, hF, hL, hSt.cons hSt.hd, hok, hex⟩)
theorem nS_goto {off : Int} {tg : Nat} (hd : decode cc pc = .ok (.goto off, 3)) (ht : (pc : Int) + off = (tg : Int)) : mg_Snd cc maxL own lvl C S pc (ng_goto tg) := by
  intro p l e s m args below meth c D cA A K Q G0 L st G nc ns H locs ls X h SS kk
  exact lv_goto X.1.1 X.1.2.1 hd ht (kk _ _ _ _ _ _ _ _ _ h SS)
theorem nS_cge {off : Int} {tg : Nat} (hd : decode cc pc = .ok (.if_icmp .ge off, 3)) (ht : (pc : Int) + off = (tg : Int)) : mg_Snd cc maxL own lvl C S pc (ng_cge tg (pc + 3)) := by
  intro p l e s m args below meth c D cA A K Q G0 L st G nc ns H locs ls X h SS kk
  obtain ⟨hP, hD, hS, hF, hL, hSt, hok, hex⟩ := SS
  match st, h, hSt, kk with
  | .inl y :: .inl x :: st', h, hSt, kk =>
    have hy := hSt.hd
    have hx := hSt.tl.hd
    have S' : mg_St D cA A maxL s.heap G0 G L st' H locs ls := ⟨hP, hD, hS, hF, hL, hSt.tl.tl, hok, hex⟩
    exact lv_icmp_ge X.1.1 X.1.2.1 hd ht (fun q => kk _ _ st' _ _ _ _ _ _ (h.1 ((mv_ile hy hx).mp q)) S') (fun q => kk _ _ st' _ _ _ _ _ _ (h.2 (Int.not_le.mp fun z => q ((mv_ile hy hx).mpr z))) S')
theorem nS_ret (hd : decode cc pc = .ok (.return_, 1)) : mg_Snd cc maxL own lvl C S pc (ng_ret C S) := by
  intro p l e s m args below meth c D cA A K Q G0 L st G nc ns H locs ls X h SS kk
  obtain ⟨hP, hD, hS, hF, hL, hSt, hok, hex⟩ := SS
  match st, h with
  | [], h =>
    refine W.widen h.1.1 h.1.2 ?_
    exact W.vret X.1.1 X.1.2.1 X.1.2.2.2.2.2.1 (fun t ht hW => ⟨⟨G, rfl, h.2, by rw [ht]; exact hP, hD, hok, hex⟩, hS.F ht⟩) hS.2.2 hd X.1.2.2.2.2.2.2
theorem nS_obj {idx : Nat} (hd : decode cc pc = .ok (.invokespecial idx, 3)) (hl : Cond.methodLink own idx objectInit ∈ mv_tb) (hi : Cond.instanceMethod objectInit ∈ mv_tb) (hc : Cond.code objectInit ⟨#[0xb1]⟩ 1 none ∈ mv_tb) : mg_Snd cc maxL own lvl C S pc (ng_obj (pc + 3)) := by
  intro p l e s m args below meth c D cA A K Q G0 L st G nc ns H locs ls X h SS kk
  obtain ⟨hP, hD, hS, hF, hL, hSt, hok, hex⟩ := SS
  match st, h, hSt, kk with
  | .inr (t, j) :: st', h, hSt, kk =>
    have h1 := mv_cond h
    have hlen := Nat.le_of_ble_eq_true h1.1
    refine W.objInit X.1.1 X.1.2.1 X.1.2.2.2.1 (X.1.2.2.2.2.1 _ hl) (X.1.2.2.2.2.1 _ hi) (X.1.2.2.2.2.1 _ hc) rfl (by rw [X.1.2.2.1]; exact hF.1.1) rfl hd (by show 1 ≤ lvl + 1; omega) (by show 2 * 0 + _ + 12 ≤ 40 + 30 * lvl; rw [mv_catsum]; omega) ?_
    exact kk _ _ st' _ _ _ _ _ _ h1.2 ⟨hP, hD, hS, hF, hL, hSt.tl, hok, hex⟩
theorem nS_new {t N idx : Nat} {R : String} {T : u_T} {ty : Nat → FieldType} (hd : decode cc pc = .ok (.new idx, 3)) (hI : mv_CI t R T N ty) (hcl : Cond.classLink own idx R ∈ mv_tb) (hin : Cond.instantiable R N ∈ mv_tb) (hini : Cond.initialized R ∈ mv_tb) (hdf : ∀ (G : mg_G) (j : Nat), (∀ k, G.2.2.1 t j k = none ∧ G.2.2.2 t j k = 0) → ∀ k, k < N → defaultValue (ty k) = vp_V (mg_fs G t j) k) :
    mg_Snd cc maxL own lvl C S pc (ng_new t N C S (pc + 3)) := by
  intro p l e s m args below meth c D cA A K Q G0 L st G nc ns H locs ls X h SS kk
  obtain ⟨hP, hD, hS, hF, hL, hSt, hok, hex⟩ := SS
  obtain ⟨⟨hx, hb, hml, hown, hts, hret, hlk⟩, hK, hN, hAO, hA, hnm⟩ := X
  obtain ⟨j, hn, ⟨hc, hs⟩, hk⟩ := h
  refine va_new (ci := t) (fs := mg_fs G t j) (C := R) (T := T) (N := N) hx hb hts hI.2.2.1 ty hI.2.2.2.1 hown (hts _ hcl) (hts _ hin) (hts _ hini) hK hP hD hS hA hI.2.1 (hdf G j (hok t j hn)) hc hs hd (fun q H1 hP1 hD1 hS1 => ?_)
  have e : (Sum.inr (t, mg_fs G t j) : va_E) = mg_cell cA G t j := (mg_cell_obj hI.1).symm
  rw [e, ← mg_ws_add hn] at hP1 hD1
  have hx2 := mg_ex.add (q := q) hn
  have hh := kk _ _ (.inr (t, j) :: st) _ _ _ H1 locs ls (hk q) ⟨hP1, hD1, hS1, mg_F_ex hF hL hx2, hL.ex hx2, (hSt.ex hx2).cons (List.mem_append_right _ (List.mem_singleton.mpr rfl)), hok.add, hex.tr hx2⟩
  rw [List.map_cons, mg_st_ex hSt hx2] at hh
  have e2 : mv_tr (mg_add G t j q).2.1 (.inr (t, j)) = .ref q := by
    show Value.ref (if t = t ∧ j = j then q else G.2.1 t j) = _
    rw [if_pos ⟨rfl, rfl⟩]
  rw [e2] at hh
  exact hh
theorem mg_n32 {N : Nat} (hN : N ≤ 100000) : ¬ (Int32.ofInt (N : Int) < 0) ∧ (Int32.ofInt (N : Int)).toNatClampNeg = N := by
  have hr : -2147483648 ≤ (N : Int) ∧ (N : Int) ≤ 2147483647 := ⟨by omega, by omega⟩
  refine ⟨fun h => ?_, ?_⟩
  · have := (mv_ilt hr mv_r0).mp h
    omega
  · rw [mv_clamp hr]; omega
theorem nS_newI {t N : Nat} (hd : decode cc pc = .ok (.newarray .int, 2)) (h12 : ¬ t < 12) (hrt : mv_rt t = false) (hac : mv_ac t = 0) (hlen : mv_len t = N) (hN : N ≤ 100000) (hw : Cond.arrayClass .int ∈ mv_tb) : mg_Snd cc maxL own lvl C S pc (ng_arr t N C S (pc + 2)) := by
  intro p l e s m args below meth c D cA A K Q G0 L st G nc ns H locs ls X h SS kk
  obtain ⟨hP, hD, hS, hF, hL, hSt, hok, hex⟩ := SS
  obtain ⟨⟨hx, hb, hml, hown, hts, hret, hlk⟩, hK, hNN, hAO, hA, hnm⟩ := X
  match st, h, hSt, kk with
  | .inl n :: st', h, hSt, kk =>
    obtain ⟨hn0, j, hn, ⟨hc, hs⟩, hk⟩ := h
    subst hn0
    have hz : (fun i => Value.int (Int32.ofInt (G.2.2.2 t j i))) = fun _ => defaultValue .int := funext (fun i => by rw [(hok t j hn i).2]; rfl)
    refine va_newa (atype := .int) (ty := .int) (a0 := (N, .inl (fun i => Int32.ofInt (G.2.2.2 t j i)))) hx hb (hts _ hw) rfl hK hP hD hS hA (N' := N) (fun c1 => by rw [vp_cell_i, hz]) (mg_n32 hN).1 (mg_n32 hN).2 (by show N * 4 ≤ 536870912; omega) hc hs hd (fun q c1 H1 hK1 hP1 hD1 hS1 => ?_)
    have ec := mg_arr (i := 0) hK hK1 (by decide) rfl
    have e : (Sum.inl (c1, N, .inl (fun i => Int32.ofInt (G.2.2.2 t j i))) : va_E) = mg_cell cA G t j := by rw [mg_cell_int h12 hrt, hac, hlen, ec]
    rw [e, ← mg_ws_add hn] at hP1 hD1
    have hx2 := mg_ex.add (q := q) hn
    have hh := kk _ _ (.inr (t, j) :: st') _ _ _ H1 locs ls (hk q) ⟨hP1, hD1, hS1, mg_F_ex hF hL hx2, hL.ex hx2, (hSt.tl.ex hx2).cons (List.mem_append_right _ (List.mem_singleton.mpr rfl)), hok.add, hex.tr hx2⟩
    rw [List.map_cons, mg_st_ex hSt.tl hx2] at hh
    have e2 : mv_tr (mg_add G t j q).2.1 (.inr (t, j)) = .ref q := by
      show Value.ref (if t = t ∧ j = j then q else G.2.1 t j) = _
      rw [if_pos ⟨rfl, rfl⟩]
    rw [e2] at hh
    exact hh
theorem nS_newZ {t N : Nat} (hd : decode cc pc = .ok (.newarray .boolean, 2)) (h12 : ¬ t < 12) (hrt : mv_rt t = false) (hac : mv_ac t = 1) (hlen : mv_len t = N) (hN : N ≤ 100000) (hw : Cond.arrayClass .boolean ∈ mv_tb) : mg_Snd cc maxL own lvl C S pc (ng_arr t N C S (pc + 2)) := by
  intro p l e s m args below meth c D cA A K Q G0 L st G nc ns H locs ls X h SS kk
  obtain ⟨hP, hD, hS, hF, hL, hSt, hok, hex⟩ := SS
  obtain ⟨⟨hx, hb, hml, hown, hts, hret, hlk⟩, hK, hNN, hAO, hA, hnm⟩ := X
  match st, h, hSt, kk with
  | .inl n :: st', h, hSt, kk =>
    obtain ⟨hn0, j, hn, ⟨hc, hs⟩, hk⟩ := h
    subst hn0
    have hz : (fun i => Value.int (Int32.ofInt (G.2.2.2 t j i))) = fun _ => defaultValue .boolean := funext (fun i => by rw [(hok t j hn i).2]; rfl)
    refine va_newa (atype := .boolean) (ty := .boolean) (a0 := (N, .inl (fun i => Int32.ofInt (G.2.2.2 t j i)))) hx hb (hts _ hw) rfl hK hP hD hS hA (N' := N) (fun c1 => by rw [vp_cell_i, hz]) (mg_n32 hN).1 (mg_n32 hN).2 (by show N * 1 ≤ 536870912; omega) hc hs hd (fun q c1 H1 hK1 hP1 hD1 hS1 => ?_)
    have ec := mg_arr (i := 1) hK hK1 (by decide) rfl
    have e : (Sum.inl (c1, N, .inl (fun i => Int32.ofInt (G.2.2.2 t j i))) : va_E) = mg_cell cA G t j := by rw [mg_cell_int h12 hrt, hac, hlen, ec]
    rw [e, ← mg_ws_add hn] at hP1 hD1
    have hx2 := mg_ex.add (q := q) hn
    have hh := kk _ _ (.inr (t, j) :: st') _ _ _ H1 locs ls (hk q) ⟨hP1, hD1, hS1, mg_F_ex hF hL hx2, hL.ex hx2, (hSt.tl.ex hx2).cons (List.mem_append_right _ (List.mem_singleton.mpr rfl)), hok.add, hex.tr hx2⟩
    rw [List.map_cons, mg_st_ex hSt.tl hx2] at hh
    have e2 : mv_tr (mg_add G t j q).2.1 (.inr (t, j)) = .ref q := by
      show Value.ref (if t = t ∧ j = j then q else G.2.1 t j) = _
      rw [if_pos ⟨rfl, rfl⟩]
    rw [e2] at hh
    exact hh
theorem nS_newA {t N i idx : Nat} {R : String} (hd : decode cc pc = .ok (.anewarray idx, 3)) (h12 : ¬ t < 12) (hrt : mv_rt t = true) (hac : mv_ac t = i) (hi : i < 7) (hat : mv_at i = .object R) (hlen : mv_len t = N) (hN : N ≤ 100000) (hcl : Cond.classLink own idx R ∈ mv_tb) (hR : R ∈ [RX0, RX5, RX1, RX7, RX2]) : mg_Snd cc maxL own lvl C S pc (ng_arr t N C S (pc + 3)) := by
  intro p l e s m args below meth c D cA A K Q G0 L st G nc ns H locs ls X h SS kk
  obtain ⟨hP, hD, hS, hF, hL, hSt, hok, hex⟩ := SS
  obtain ⟨⟨hx, hb, hml, hown, hts, hret, hlk⟩, hK, hNN, hAO, hA, hnm⟩ := X
  match st, h, hSt, kk with
  | .inl n :: st', h, hSt, kk =>
    obtain ⟨hn0, j, hn, ⟨hc, hs⟩, hk⟩ := h
    subst hn0
    refine va_newq (C := R) hx hb hown (hts _ hcl) (hAO R hR) hK hP hD hS hA (N' := N) (mg_n32 hN).1 (mg_n32 hN).2 (by omega) hc hs hd (fun q c1 H1 hK1 hP1 hD1 hS1 => ?_)
    have ec := mg_arr (i := i) hK hK1 hi hat
    have hz : (fun k => G.2.2.1 t j k) = fun _ => none := funext (fun k => (hok t j hn k).1)
    have e : (Sum.inl (c1, N, .inr (.inr (.inr (.inr (fun _ => none))))) : va_E) = mg_cell cA G t j := by rw [mg_cell_ref h12 hrt, hac, hlen, ec, hz]
    rw [e, ← mg_ws_add hn] at hP1 hD1
    have hx2 := mg_ex.add (q := q) hn
    have hh := kk _ _ (.inr (t, j) :: st') _ _ _ H1 locs ls (hk q) ⟨hP1, hD1, hS1, mg_F_ex hF hL hx2, hL.ex hx2, (hSt.tl.ex hx2).cons (List.mem_append_right _ (List.mem_singleton.mpr rfl)), hok.add, hex.tr hx2⟩
    rw [List.map_cons, mg_st_ex hSt.tl hx2] at hh
    have e2 : mv_tr (mg_add G t j q).2.1 (.inr (t, j)) = .ref q := by
      show Value.ref (if t = t ∧ j = j then q else G.2.1 t j) = _
      rw [if_pos ⟨rfl, rfl⟩]
    rw [e2] at hh
    exact hh
theorem nS_putr {t N k idx : Nat} {R : String} {T : u_T} {ty : Nat → FieldType} {o : Nat × Nat × Nat} {ty0 : FieldType} (hd : decode cc pc = .ok (.putfield idx, 3)) (hI : mv_CI t R T N ty) (hk : k < N) (hf : (mv_fd t)[k]? = some (some o))
    (hw : Cond.fieldLink own idx (T k).1 (T k).2.1 (T k).2.2.1 ∈ mv_tb) (hfin : (T k).2.2.2 = true) (hdecl : (T k).1 = own) (hty : parseFieldDescriptor (T k).2.2.1 = some ty0) (hnar : ∀ q, narrow ty0 (.ref q) = .ref q) (hfit : ∀ q, fits ty0 (.ref q) = true) : mg_Snd cc maxL own lvl C S pc (ng_putr t k (pc + 3)) := by
  intro p l e s m args below meth c D cA A K Q G0 L st G nc ns H locs ls X h SS kk
  obtain ⟨hP, hD, hS, hF, hL, hSt, hok, hex⟩ := SS
  obtain ⟨⟨hx, hb, hml, hown, hts, hret, hlk⟩, hK, hNN, hAO, hA, hnm⟩ := X
  match st, h, hSt, kk with
  | .inr (t2, j2) :: .inr (t', j) :: st', h, hSt, kk =>
    dsimp only [ng_putr] at h
    have h1 := mv_cond h
    have hb2 := Nat.eq_of_beq_eq_true h1.1
    subst hb2
    have hm : (t', j) ∈ G.1 := hSt.tl.hd
    obtain ⟨q0, hq, hset⟩ := mg_ws_get hD hm
    have hset := hset (mg_setR G t' j k (some (G.2.1 t2 j2))) rfl rfl (fun _ _ z => mg_cell_setR z)
    rw [mg_cell_obj hI.1, ← mg_fs_setR hf] at hset
    rw [mg_cell_obj hI.1] at hq
    refine va_putF hx hb hts hI.2.2.1 ty hI.2.2.2.1 hI.2.2.2.2.1 hown hK hP hD hS q0 hq hI.2.1 k hk (hts _ hw) (fun _ z => z) hfin hnm hdecl hty (v := .ref (G.2.1 t2 j2)) (hnar _) (hfit _) (by rw [mg_fs_len]; exact (List.getElem?_eq_some_iff.mp hf).1) hd (fun H1 locs1 hP1 hD1 hS1 => ?_)
    rw [hset] at hP1 hD1
    exact kk _ _ st' (mg_setR G t' j k (some (G.2.1 t2 j2))) _ _ _ _ _ h1.2 ⟨hP1, hD1, hS1, hF, hL, hSt.tl.tl, hok.setR hm, hex⟩
theorem nS_puti {t N k idx : Nat} {R : String} {T : u_T} {ty : Nat → FieldType} (hd : decode cc pc = .ok (.putfield idx, 3)) (hI : mv_CI t R T N ty) (hk : k < N) (hf : (mv_fd t)[k]? = some none)
    (hw : Cond.fieldLink own idx (T k).1 (T k).2.1 (T k).2.2.1 ∈ mv_tb) (hfin : (T k).2.2.2 = false) (hty : parseFieldDescriptor (T k).2.2.1 = some .int) : mg_Snd cc maxL own lvl C S pc (ng_puti t k (pc + 3)) := by
  intro p l e s m args below meth c D cA A K Q G0 L st G nc ns H locs ls X h SS kk
  obtain ⟨hP, hD, hS, hF, hL, hSt, hok, hex⟩ := SS
  obtain ⟨⟨hx, hb, hml, hown, hts, hret, hlk⟩, hK, hNN, hAO, hA, hnm⟩ := X
  match st, h, hSt, kk with
  | .inl x :: .inr (t', j) :: st', h, hSt, kk =>
    dsimp only [ng_puti] at h
    have h1 := mv_cond h
    have hb2 := Nat.eq_of_beq_eq_true h1.1
    subst hb2
    have hm : (t', j) ∈ G.1 := hSt.tl.hd
    obtain ⟨q0, hq, hset⟩ := mg_ws_get hD hm
    have hset := hset (mg_setZ G t' j k x) rfl rfl (fun _ _ z => mg_cell_setZ z)
    rw [mg_cell_obj hI.1, ← mg_fs_setZ hf] at hset
    rw [mg_cell_obj hI.1] at hq
    refine va_put hx hb hts hI.2.2.1 ty hI.2.2.2.1 hI.2.2.2.2.1 hown hK hP hD hS q0 hq hI.2.1 k hk (hts _ hw) (fun _ z => z) hfin hty (v := .int (Int32.ofInt x)) rfl rfl (by rw [mg_fs_len]; exact (List.getElem?_eq_some_iff.mp hf).1) hd (fun H1 locs1 hP1 hD1 hS1 => ?_)
    rw [hset] at hP1 hD1
    exact kk _ _ st' (mg_setZ G t' j k x) _ _ _ _ _ h1.2 ⟨hP1, hD1, hS1, hF, hL, hSt.tl.tl, hok.setZ hm, hex⟩
theorem nS_putz {t N k idx : Nat} {R : String} {T : u_T} {ty : Nat → FieldType} (hd : decode cc pc = .ok (.putfield idx, 3)) (hI : mv_CI t R T N ty) (hk : k < N) (hf : (mv_fd t)[k]? = some none)
    (hw : Cond.fieldLink own idx (T k).1 (T k).2.1 (T k).2.2.1 ∈ mv_tb) (hfin : (T k).2.2.2 = false) (hty : parseFieldDescriptor (T k).2.2.1 = some .boolean) : mg_Snd cc maxL own lvl C S pc (ng_putz t k (pc + 3)) := by
  intro p l e s m args below meth c D cA A K Q G0 L st G nc ns H locs ls X h SS kk
  obtain ⟨hP, hD, hS, hF, hL, hSt, hok, hex⟩ := SS
  obtain ⟨⟨hx, hb, hml, hown, hts, hret, hlk⟩, hK, hNN, hAO, hA, hnm⟩ := X
  match st, h, hSt, kk with
  | .inl x :: .inr (t', j) :: st', h, hSt, kk =>
    dsimp only [ng_putz] at h
    have h1 := mv_cond h
    have hb2 := Nat.eq_of_beq_eq_true h1.1
    have hx01 := h1.2.1
    subst hb2
    have hm : (t', j) ∈ G.1 := hSt.tl.hd
    obtain ⟨q0, hq, hset⟩ := mg_ws_get hD hm
    have hset := hset (mg_setZ G t' j k x) rfl rfl (fun _ _ z => mg_cell_setZ z)
    rw [mg_cell_obj hI.1, ← mg_fs_setZ hf] at hset
    rw [mg_cell_obj hI.1] at hq
    refine va_put hx hb hts hI.2.2.1 ty hI.2.2.2.1 hI.2.2.2.2.1 hown hK hP hD hS q0 hq hI.2.1 k hk (hts _ hw) (fun _ z => z) hfin hty (v := .int (Int32.ofInt x)) (by rcases hx01 with rfl | rfl <;> rfl) (by rcases hx01 with rfl | rfl <;> rfl) (by rw [mg_fs_len]; exact (List.getElem?_eq_some_iff.mp hf).1) hd (fun H1 locs1 hP1 hD1 hS1 => ?_)
    rw [hset] at hP1 hD1
    exact kk _ _ st' (mg_setZ G t' j k x) _ _ _ _ _ h1.2.2 ⟨hP1, hD1, hS1, hF, hL, hSt.tl.tl, hok.setZ hm, hex⟩
theorem nS_getr {t N k idx t2 : Nat} {R : String} {T : u_T} {ty : Nat → FieldType} {o : Nat × Nat × Nat} (hd : decode cc pc = .ok (.getfield idx, 3)) (hI : mv_CI t R T N ty) (hk : k < N) (hf : (mv_fd t)[k]? = some (some o)) (hw : Cond.fieldLink own idx (T k).1 (T k).2.1 (T k).2.2.1 ∈ mv_tb) : mg_Snd cc maxL own lvl C S pc (ng_getr t k t2 (pc + 3)) := by
  intro p l e s m args below meth c D cA A K Q G0 L st G nc ns H locs ls X h SS kk
  obtain ⟨hP, hD, hS, hF, hL, hSt, hok, hex⟩ := SS
  obtain ⟨⟨hx, hb, hml, hown, hts, hret, hlk⟩, hK, hNN, hAO, hA, hnm⟩ := X
  match st, h, hSt, kk with
  | .inr (t', j) :: st', h, hSt, kk =>
    dsimp only [ng_getr] at h
    have h1 := mv_cond h
    have hb2 := Nat.eq_of_beq_eq_true h1.1
    subst hb2
    obtain ⟨j2, hm2, hr, h2⟩ := h1.2
    obtain ⟨q0, hq, -⟩ := mg_ws_get hD (hSt.hd : (t', j) ∈ G.1)
    rw [mg_cell_obj hI.1] at hq
    have hv : (mg_fs G t' j)[k]? = some (.ref (G.2.1 t2 j2)) := by
      rw [mg_fs_at hf]
      show some (va_rf (G.2.2.1 t' j k)) = _
      rw [hr]; rfl
    refine va_get hx hb hts hI.2.2.1 hown hK hP q0 hq hI.2.1 k hk (hts _ hw) (fun _ z => z) hv hd ?_
    exact kk _ _ (.inr (t2, j2) :: st') _ _ _ _ _ _ h2 ⟨hP, hD, hS, hF, hL, hSt.tl.cons hm2, hok, hex⟩
theorem nS_iast {t N : Nat} (hd : decode cc pc = .ok (.iastore, 1)) (h12 : ¬ t < 12) (hrt : mv_rt t = false) (hac : mv_ac t = 0) (hlen : mv_len t = N) (hN : N ≤ 100000) : mg_Snd cc maxL own lvl C S pc (ng_iast t N (pc + 1)) := by
  intro p l e s m args below meth c D cA A K Q G0 L st G nc ns H locs ls X h SS kk
  obtain ⟨hP, hD, hS, hF, hL, hSt, hok, hex⟩ := SS
  obtain ⟨⟨hx, hb, hml, hown, hts, hret, hlk⟩, hK, hNN, hAO, hA, hnm⟩ := X
  match st, h, hSt, kk with
  | .inl x :: .inl i :: .inr (t', j) :: st', h, hSt, kk =>
    dsimp only [ng_iast] at h
    have h1 := mv_cond h
    have hb2 := Nat.eq_of_beq_eq_true h1.1
    subst hb2
    have hin := h1.2.1
    have hm : (t', j) ∈ G.1 := hSt.tl.tl.hd
    have hir : -2147483648 ≤ i ∧ i ≤ 2147483647 := hSt.tl.hd
    obtain ⟨q0, hq, hset⟩ := mg_ws_get hD hm
    have hset := hset (mg_setZ G t' j i.toNat x) rfl rfl (fun _ _ z => mg_cell_setZ z)
    have hup : upd (fun q => Int32.ofInt (G.2.2.2 t' j q)) i.toNat (Int32.ofInt x) = fun q => Int32.ofInt ((mg_setZ G t' j i.toNat x).2.2.2 t' j q) := by
      funext q
      by_cases hq2 : q = i.toNat
      · subst hq2; simp [upd, mg_setZ, mv_up]
      · simp [upd, mg_setZ, mv_up, hq2]
    rw [mg_cell_int h12 hrt, hac, hlen, ← hup] at hset
    rw [mg_cell_int h12 hrt, hac, hlen] at hq
    refine va_iast hx hb hK hP hD hS q0 0 hq (mv_tys_at cA (by decide)) (mv_vin hir hin) hd (fun H1 locs1 hP1 hD1 hS1 => ?_)
    rw [mv_clamp hir, hset] at hP1 hD1
    exact kk _ _ st' (mg_setZ G t' j i.toNat x) _ _ _ _ _ h1.2.2 ⟨hP1, hD1, hS1, hF, hL, hSt.tl.tl.tl, hok.setZ hm, hex⟩
theorem nS_aast {t t2 N i0 N2 : Nat} {R : String} {T : u_T} {ty : Nat → FieldType} (hd : decode cc pc = .ok (.aastore, 1)) (h12 : ¬ t < 12) (hrt : mv_rt t = true) (hac : mv_ac t = i0) (hi : i0 < 7) (hat : mv_at i0 = .object R) (hlen : mv_len t = N) (hN : N ≤ 100000) (hI : mv_CI t2 R T N2 ty) : mg_Snd cc maxL own lvl C S pc (ng_aast t t2 N (pc + 1)) := by
  intro p l e s m args below meth c D cA A K Q G0 L st G nc ns H locs ls X h SS kk
  obtain ⟨hP, hD, hS, hF, hL, hSt, hok, hex⟩ := SS
  obtain ⟨⟨hx, hb, hml, hown, hts, hret, hlk⟩, hK, hNN, hAO, hA, hnm⟩ := X
  match st, h, hSt, kk with
  | .inr (t3, j2) :: .inl i :: .inr (t', j) :: st', h, hSt, kk =>
    dsimp only [ng_aast] at h
    have h1 := mv_cond h
    have hb2 := Nat.eq_of_beq_eq_true h1.1
    subst hb2
    have h2 := mv_cond h1.2
    have hb3 := Nat.eq_of_beq_eq_true h2.1
    subst hb3
    have hin := h2.2.1
    have hm : (t', j) ∈ G.1 := hSt.tl.tl.hd
    have hm2 : (t3, j2) ∈ G.1 := hSt.hd
    have hir : -2147483648 ≤ i ∧ i ≤ 2147483647 := hSt.tl.hd
    obtain ⟨q0, hq, hset⟩ := mg_ws_get hD hm
    obtain ⟨qk, hqk, -⟩ := mg_ws_get hD hm2
    have hset := hset (mg_setR G t' j i.toNat (some (G.2.1 t3 j2))) rfl rfl (fun _ _ z => mg_cell_setR z)
    have hup : va_up (fun q => G.2.2.1 t' j q) i.toNat (some (G.2.1 t3 j2)) = fun q => (mg_setR G t' j i.toNat (some (G.2.1 t3 j2))).2.2.1 t' j q := by
      funext q
      by_cases hq2 : q = i.toNat
      · subst hq2; simp [va_up, mg_setR]
      · simp [va_up, mg_setR, hq2]
    rw [mg_cell_ref h12 hrt, hac, hlen, ← hup] at hset
    rw [mg_cell_ref h12 hrt, hac, hlen] at hq
    rw [mg_cell_obj hI.1] at hqk
    refine va_astq (r := (R, T, N2)) hx hb hK hP hD hS q0 i0 qk t3 hq (by rw [mv_tys_at cA hi, hat]) hqk hI.2.1 (mv_vin hir hin) hd (fun H1 locs1 hP1 hD1 hS1 => ?_)
    rw [mv_clamp hir, hset] at hP1 hD1
    exact kk _ _ st' (mg_setR G t' j i.toNat (some (G.2.1 t3 j2))) _ _ _ _ _ h2.2.2 ⟨hP1, hD1, hS1, hF, hL, hSt.tl.tl.tl, hok.setR hm, hex⟩
theorem mg_blind {D : va_G} {cA : Nat → ClassId} {G : mg_G} {sz t j : Nat} : FrameBlind (mg_Pc D cA G sz t j) :=
  fun _ U g mk q => ⟨q.1, q.2.1, q.2.2.1, q.2.2.2.1, va_K.moved (u := U) (U := U.calling g mk _) (Vm.Alike.refl U.vm) q.2.2.2.2.1, mv_N.same (s := U) rfl q.2.2.2.2.2.1, mg_AO.moved (u := U) (U := U.calling g mk _) (Vm.Alike.refl U.vm) q.2.2.2.2.2.2⟩
theorem mg_goes {p : Program} {l : Launch} {e : Env} {s : State} {m : MethodId} {args : Array Value} {below : List Frame} {meth : Method} {c : Code} {D : va_G} {cA : Nat → ClassId} {A : Nat → Prop} {G0 G : mg_G} {Q1 : mg_G → Prop} {Qm : State → Prop} {L : mv_L} {st0 : List Value} {st' : List mv_V} {H : Heap} {locs : List Loc} {ls : Array Slot} {a : Array Value} {nc ns C1 S1 : Nat} {R : Room}
    (hr : va_Run p l e R s m args below meth c H locs nc ns C1 S1 (F0 m pc ls st0) (st'.map (mv_tr G.2.1)) (mg_Qc D cA (va_A (mg_ws cA G) H.size) G Q1 a) (va_A (mg_ws cA G) H.size)) (hD : va_D A (mg_ws cA G)) (hS : va_S A s.heap H locs) (hA : ∀ q, s.heap.size ≤ q → A q) (hF : mv_F G.2.1 maxL ls L) (hL : mg_Lok G L) (hSt : mg_Sok G st') (hex : mg_ex G0 G)
    (kk : ∀ (G' : mg_G) (H' : Heap) (locs' : List Loc), Q1 G' → mg_ex G G' → mg_St D cA A maxL s.heap G0 G' L st' H' locs' ls → W p l e R s m args below meth c H' locs' (nc + C1) (ns + S1) Qm (F0 m (pc + 3) ls (st'.map (mv_tr G'.2.1)))) :
    W p l e R s m args below meth c H locs nc ns Qm (F0 m pc ls st0) := by
  have hFc : ∀ q, va_A (mg_ws cA G) H.size q → A q := by
    intro q h
    rcases h with ⟨k, e, h⟩ | h
    · exact hD.2 k (q, e) h
    · exact hA q (Nat.le_trans hS.1 h)
  refine va_callv hr hS (fun q _ h => hFc q h) hFc (fun u t H1 locs1 ht hal hpost hB hz hk1 hS1 => ?_)
  obtain ⟨hP1, hD1, hok1, hex1⟩ := hB
  rw [ht] at hP1
  have hh := kk u H1 locs1 hpost hex1 ⟨hP1, hD1.weaken (fun k q _ h => hFc q.1 h), hS1, mg_F_ex hF hL hex1, hL.ex hex1, hSt.ex hex1, hok1, hex.tr hex1⟩
  rw [mg_st_ex hSt hex1] at hh
  exact hh
theorem nS_init {idx lv C1 S1 t mxL : Nat} {y : MethodName} {bytes : ByteArray} (hd : decode cc pc = .ok (.invokespecial idx, 3)) (hl : Cond.methodLink own idx y ∈ mv_tb) (hin : Cond.instanceMethod y ∈ mv_tb) (hy1 : y.name = "<init>") (hY : mv_Yk y bytes mxL none 0) (hlv : lv < lvl) : mg_Snd cc maxL own lvl C S pc (ng_init lv C1 S1 y bytes mxL t C S (pc + 3)) := by
  intro p l e s m args below meth c D cA A K Q G0 L st G nc ns H locs ls X h SS kk
  obtain ⟨hP, hD, hS, hF, hL, hSt, hok, hex⟩ := SS
  obtain ⟨⟨hx, hb, hml, hown, hts, hret, hlk⟩, hK, hNN, hAO, hA, hnm⟩ := X
  match st, h, hSt, kk with
  | .inr (t', j) :: st', h, hSt, kk =>
    dsimp only [ng_init] at h
    have h1 := mv_cond h
    have hb2 := Nat.eq_of_beq_eq_true h1.1
    subst hb2
    have h2 := mv_cond h1.2
    have hlen := Nat.le_of_ble_eq_true h2.1
    obtain ⟨⟨hc, hs⟩, hEv⟩ := h2.2
    have hM := hEv l D cA H.size hSt.hd hok
    refine mg_goes (pc := pc) (va_runI (As := []) (rest := st'.map (mv_tr G.2.1)) ⟨hx, hb, hml, hown, hts⟩ hM (cwI 0 hts (mv_goodIn hY.1) rfl rfl rfl (hts _ hY.2.1) (hts _ hl) (hts _ hin) hy1 ⟨hY.2.2.1.1, hY.2.2.1.2, hY.2.2.2.1⟩ ⟨by show lv + 1 + 1 ≤ lvl + 1; omega, by show 8 + (mxL + 11) + (40 + 30 * lv) ≤ 40 + 30 * lvl; have := hY.2.2.2.2; omega⟩)
      ⟨mg_blind, fun U hU hW => ⟨rfl, by rw [hU], by rw [hU]; exact hP, hD.weaken (fun _ _ _ _ => trivial), va_K.moved hW.alike hK, mv_N.warm hW hNN, hAO.moved hW.alike⟩⟩ rfl rfl hF.1.1 rfl (by show 2 * 0 + _ ≤ 8; rw [mv_catsum]; omega) hd ⟨hc, hs⟩) hD hS hA hF hL hSt.tl hex (fun G' H' locs' hQ1 hex1 SS' => kk _ _ st' _ _ _ _ _ _ (hQ1 hex1) SS')
theorem nS_initN {idx lv C1 S1 t mxL : Nat} {y : MethodName} {bytes : ByteArray} (hd : decode cc pc = .ok (.invokespecial idx, 3)) (hl : (own, idx, y) ∈ mv_nest) (hin : Cond.instanceMethod y ∈ mv_tb) (hy1 : y.name = "<init>") (hY : mv_Yk y bytes mxL none 0) (hlv : lv < lvl) : mg_Snd cc maxL own lvl C S pc (ng_init lv C1 S1 y bytes mxL t C S (pc + 3)) := by
  intro p l e s m args below meth c D cA A K Q G0 L st G nc ns H locs ls X h SS kk
  obtain ⟨hP, hD, hS, hF, hL, hSt, hok, hex⟩ := SS
  obtain ⟨⟨hx, hb, hml, hown, hts, hret, hlk⟩, hK, hNN, hAO, hA, hnm⟩ := X
  match st, h, hSt, kk with
  | .inr (t', j) :: st', h, hSt, kk =>
    dsimp only [ng_init] at h
    have h1 := mv_cond h
    have hb2 := Nat.eq_of_beq_eq_true h1.1
    subst hb2
    have h2 := mv_cond h1.2
    have hlen := Nat.le_of_ble_eq_true h2.1
    obtain ⟨⟨hc, hs⟩, hEv⟩ := h2.2
    have hM := hEv l D cA H.size hSt.hd hok
    refine mg_goes (pc := pc) (va_runIN (As := []) (rest := st'.map (mv_tr G.2.1)) ⟨hx, hb, hml, hown, hts⟩ hM ⟨va_cnB 0 hts (mv_goodIn hY.1) rfl rfl rfl (hNN _ hl) (hts _ hY.2.1) ⟨hY.2.2.1.1, hY.2.2.1.2, hY.2.2.2.1⟩ ⟨by show lv + 1 + 1 ≤ lvl + 1; omega, by show 8 + (mxL + 11) + (40 + 30 * lv) ≤ 40 + 30 * lvl; have := hY.2.2.2.2; omega⟩, hy1, hts _ hin⟩
      ⟨mg_blind, fun U hU hW => ⟨rfl, by rw [hU], by rw [hU]; exact hP, hD.weaken (fun _ _ _ _ => trivial), va_K.moved hW.alike hK, mv_N.warm hW hNN, hAO.moved hW.alike⟩⟩ rfl rfl hF.1.1 rfl (by show 2 * 0 + _ ≤ 8; rw [mv_catsum]; omega) hd ⟨hc, hs⟩) hD hS hA hF hL hSt.tl hex (fun G' H' locs' hQ1 hex1 SS' => kk _ _ st' _ _ _ _ _ _ (hQ1 hex1) SS')
-- walking
def mg_look : List (Nat × mg_O) → Nat → mg_O
  | [], _ => ng_no
  | (q, o) :: r, pc => bif Nat.beq q pc then o else mg_look r pc
def mg_run (tab : List (Nat × mg_O)) (cut : List Nat) (K : mg_K) (Q : mg_G → Prop) : Nat → mg_K
  | 0, pc, L, st, G, nc, ns => K pc L st G nc ns
  | n + 1, pc, L, st, G, nc, ns => mg_look tab pc (fun pc' L' st' G' nc' ns' => bif mv_in cut pc' then K pc' L' st' G' nc' ns' else mg_run tab cut K Q n pc' L' st' G' nc' ns') Q L st G nc ns
def mg_J (cc : ByteArray) (maxL : Nat) (own : String) (lvl C S : Nat) (Q : mg_G → Prop) : mg_K := fun pc L st G nc ns =>
  ∀ (p : Program) (l : Launch) (e : Env) (s : State) (m : MethodId) (args : Array Value) (below : List Frame) (meth : Method) (c : Code) (D : va_G) (cA : Nat → ClassId) (A : Nat → Prop) (G0 : mg_G) (H : Heap) (locs : List Loc) (ls : Array Slot),
    mg_Cx cc maxL own cA D A p s m args meth c → mg_St D cA A maxL s.heap G0 G L st H locs ls →
    W p l e (mg_rm lvl C S) s m args below meth c H locs nc ns (MQ below (mg_Qc D cA A G0 Q) args s C S A) (F0 m pc ls (st.map (mv_tr G.2.1)))
theorem mg_look_snd : ∀ {tab : List (Nat × mg_O)}, (∀ x ∈ tab, mg_Snd cc maxL own lvl C S x.1 x.2) → ∀ pc, mg_Snd cc maxL own lvl C S pc (mg_look tab pc)
  | [], _, _ => nS_no
  | (q, o) :: r, h, pc => by
    unfold mg_look
    cases hb : Nat.beq q pc with
    | true =>
      have := Nat.eq_of_beq_eq_true hb
      subst this
      exact h (q, o) List.mem_cons_self
    | false => exact mg_look_snd (fun x hx => h x (List.mem_cons_of_mem _ hx)) pc
theorem mg_run_J {tab : List (Nat × mg_O)} {cut : List Nat} {Q : mg_G → Prop} (ht : ∀ x ∈ tab, mg_Snd cc maxL own lvl C S x.1 x.2) :
    ∀ (n pc : Nat) (L : mv_L) (st : List mv_V) (G : mg_G) (nc ns : Nat), mg_run tab cut (mg_J cc maxL own lvl C S Q) Q n pc L st G nc ns → mg_J cc maxL own lvl C S Q pc L st G nc ns
  | 0, _, _, _, _, _, _, h => h
  | n + 1, pc, L, st, G, nc, ns, h => by
    intro p l e s m args below meth c D cA A G0 H locs ls X SS
    refine mg_look_snd ht pc p l e s m args below meth c D cA A _ Q G0 L st G nc ns H locs ls X h SS (fun pc' L' st' G' nc' ns' H' locs' ls' h' S' => ?_)
    cases hc : mv_in cut pc' with
    | true =>
      rw [hc] at h'
      exact h' p l e s m args below meth c D cA A G0 H' locs' ls' X S'
    | false =>
      rw [hc] at h'
      exact mg_run_J ht n pc' L' st' G' nc' ns' h' p l e s m args below meth c D cA A G0 H' locs' ls' X S'
theorem mg_ev {y : MethodName} (hy : plainName y.cls = true) (hy1 : y.name = "<init>") {G : mg_G} {t j : Nat} {Q : mg_G → Prop} (h : (t, j) ∈ G.1 → mv_ent [.inr (t, j)] maxL (fun L => mg_J cc maxL y.cls lvl C S Q 0 L [] G 0 0)) : mg_Ev lvl C S y cc maxL G t j Q := by
  intro l D cA sz hm hok
  obtain ⟨hle, h⟩ := mv_ent_at (h hm)
  have hle' : 1 ≤ maxL := hle
  refine Met.ofW (cc := cc) (maxL := maxL) (ret := none) hy rfl ?_
  intro p e s m args below meth c s₁ B hml hv
  obtain ⟨rfl, hsz, hP, hD, hK, hN, hAO⟩ := hv
  subst hsz
  have hts := atoms_spec (ws := Cond.code y cc maxL none :: mv_tb) B.pre
  have hl := lv_entry [.ref (G.2.1 t j)] (n := maxL) (by show 1 ≤ maxL; simpa using hle)
  rw [show (#[Value.ref (G.2.1 t j)] : Array Value) = ([Value.ref (G.2.1 t j)] : List Value).toArray from rfl]
  rw [lg_entry_eq]
  refine h p l e s m _ below meth c D cA (va_A (mg_ws cA G) s.heap.size) G s.heap [] _ ⟨⟨B.exec, B.bytes, hml, findClass_of_methodNamed B.named, fun w hw => hts w (List.mem_cons_of_mem _ hw), B.returns, B.notSynchronized⟩, hK, hN, hAO, fun q hq => Or.inr hq, (name_of_methodNamed B.named B.method).1.trans hy1⟩ ⟨hP, hD.self, va_S.rf, ⟨⟨hl.1, hl.2.1, fun q hq => ?_⟩, by simp; omega⟩, ?_, (fun _ z => by cases z), hok, mg_ex.rf⟩
  · obtain ⟨i, x⟩ := q
    obtain ⟨v, hv, rfl⟩ := mv_pr_mem.mp hq
    refine hl.2.2 _ ?_
    cases i with
    | zero =>
      have hv : some (some (Sum.inr (t, j) : mv_V)) = some (some v) := hv
      cases hv
      exact List.mem_cons_self
    | succ i =>
      have hv : (List.replicate (maxL - 1) (none : Option mv_V))[i]? = some (some v) := hv
      rw [List.getElem?_replicate] at hv
      split at hv <;> simp at hv
  · intro i v hv
    cases i with
    | zero =>
      have hv : some (some (Sum.inr (t, j) : mv_V)) = some (some v) := hv
      cases hv
      exact hm
    | succ i =>
      have hv : (List.replicate (maxL - 1) (none : Option mv_V))[i]? = some (some v) := hv
      rw [List.getElem?_replicate] at hv
      split at hv <;> simp at hv
end MGS
