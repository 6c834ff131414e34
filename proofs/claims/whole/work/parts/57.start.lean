/-! The law: its loop, its start. -/
theorem lq_nest : ∀ q ∈ mv_nest, Cond.methodLinkNest q.1 q.2.1 q.2.2 "QuoteGrid" ∈ lw_tbl := List.forall_mem_cons.mpr ⟨List.mem_of_getElem? (i := 103) (by decide +kernel), List.forall_mem_cons.mpr ⟨List.mem_of_getElem? (i := 136) (by decide +kernel), List.forall_mem_cons.mpr ⟨List.mem_of_getElem? (i := 261) (by decide +kernel), List.forall_mem_cons.mpr ⟨List.mem_of_getElem? (i := 267) (by decide +kernel), List.forall_mem_cons.mpr ⟨List.mem_of_getElem? (i := 305) (by decide +kernel), List.forall_mem_cons.mpr ⟨List.mem_of_getElem? (i := 320) (by decide +kernel), List.forall_mem_cons.mpr ⟨List.mem_of_getElem? (i := 457) (by decide +kernel), List.forall_mem_cons.mpr ⟨List.mem_of_getElem? (i := 541) (by decide +kernel), List.forall_mem_cons.mpr ⟨List.mem_of_getElem? (i := 548) (by decide +kernel), List.forall_mem_cons.mpr ⟨List.mem_of_getElem? (i := 559) (by decide +kernel), List.forall_mem_cons.mpr ⟨List.mem_of_getElem? (i := 560) (by decide +kernel), List.forall_mem_cons.mpr ⟨List.mem_of_getElem? (i := 563) (by decide +kernel), List.forall_mem_cons.mpr ⟨List.mem_of_getElem? (i := 574) (by decide +kernel), List.forall_mem_cons.mpr ⟨List.mem_of_getElem? (i := 602) (by decide +kernel), List.forall_mem_cons.mpr ⟨List.mem_of_getElem? (i := 603) (by decide +kernel), List.forall_mem_cons.mpr ⟨List.mem_of_getElem? (i := 608) (by decide +kernel), List.forall_mem_cons.mpr ⟨List.mem_of_getElem? (i := 710) (by decide +kernel), fun _ h => by cases h⟩⟩⟩⟩⟩⟩⟩⟩⟩⟩⟩⟩⟩⟩⟩⟩⟩
section LQE
variable {p : Program} {l : Launch} {e : Env} {s : State} {m : MethodId} {below : List Frame} {meth : Method} {c : Code} {b L : Nat} {xs : Nat → Int32} {D : va_G} {cA : Nat → ClassId} {ad : Nat → Nat → Nat}
set_option maxRecDepth 100000 in
theorem lq_loop (hC : lq_C p l e s m below meth c b L xs D cA ad) : ∀ (n i : Nat) (M : mv_M) (F : qg_F), i ≤ L → L + 1 ≤ i + n → lq_I M F → lq_G p l e s m below meth c b D cA ad 18 [] M i := by
  intro n
  induction n with
  | zero => intro i M F h1 h2; omega
  | succ n ih =>
    intro i M F hi hin I H locs ls hP hS hl hM hs
    have hC' := hC
    obtain ⟨⟨hx, hb, hr, hml, hown, hts, hX, hbl, hlocks, hgv⟩, hL, hK, hN, hD, hA⟩ := hC'
    have hbA : ¬ (fun q : Nat => s.heap.size ≤ q) b := Nat.not_le.mpr hbl
    refine lv_iload_n hx hb dL_law_18 rfl (lv_at hl 3 rfl) ?_
    refine lv_aload_n hx hb dL_law_19 rfl (lv_at hl 0 rfl) ?_
    refine va_slen hx hb hX hbl hbA hS dL_law_20 ?_
    refine lv_iconst (v := Int32.ofInt 5) hx hb dL_law_21 rfl ?_
    refine lv_isub hx hb dL_law_22 ?_
    rw [show Int32.ofNat L = Int32.ofInt (L : Int) from rfl, mv_sub]
    refine lv_icmp_gt (tgt := 943) hx hb dL_law_23 (by decide) (fun c5 => ?_) (fun c5 => ?_)
    · refine lv_iconst (v := 1) hx hb dL_law_943 (by decide) ?_
      refine va_forget (fun q hq => hS.2.2 q hq) ?_
      refine W.widen (k := 600000) (n := 7302250) (by decide) (by decide) ?_
      exact lw_ret hx hb hr hlocks dL_law_944
    · have h5 : i + 5 ≤ L := by
        have h6 : ¬ ((L : Int) - 5 < (i : Int)) := fun z => c5 ((mv_ilt (by omega) (by omega)).mpr z)
        omega
      refine lv_aload_n hx hb dL_law_26 rfl (lv_at hl 0 rfl) ?_
      refine lv_iload_n hx hb dL_law_27 rfl (lv_at hl 3 rfl) ?_
      refine va_sld hx hb hX hbl hbA hS (mv_vin (by omega) (by omega)) dL_law_28 ?_
      refine lv_bipush (v := 31) hx hb dL_law_29 (by decide) ?_
      refine lv_iand hx hb dL_law_31 ?_
      generalize (xs (Int32.ofInt (i : Int)).toNatClampNeg &&& 31) = w
      have next : ∀ M' F', lq_I M' F' → lq_G p l e s m below meth c b D cA ad 937 [] M' i := by
        intro M' F' I' H locs ls hP hS hl hM hs
        refine lv_iinc (v := Int32.ofInt ((i + 5 : Nat) : Int)) (lv' := [(3, .int (Int32.ofInt ((i + 5 : Nat) : Int))), (0, .ref b), (1, .ref (ad 10 0)), (2, .ref (ad 11 0))]) hx hb dL_law_937 hl (k := 3) rfl (by rw [mv_add]; rfl) (by decide) rfl (fun ls hl => ?_)
        refine lv_goto (tgt := 18) hx hb dL_law_940 (by decide) ?_
        exact ih (i + 5) M' F' h5 (by omega) I' H locs ls hP hS (lv_sub hl [1, 2, 3, 0] rfl) hM hs
      by_cases hw : w.toInt < 0 ∨ 26 < w.toInt
      · refine lv_tableOut (tgt := 937) hx hb dL_law_32 hw (by decide) ?_
        exact next M F I H locs ls hP hS hl hM hs
      · obtain ⟨k, hk⟩ := Int.eq_ofNat_of_zero_le (show 0 ≤ w.toInt by omega)
        have hk26 : k ≤ 26 := by omega
        rcases (show k = 0 ∨ k = 1 ∨ k = 2 ∨ k = 3 ∨ k = 4 ∨ k = 5 ∨ k = 6 ∨ k = 7 ∨ k = 8 ∨ k = 9 ∨ k = 10 ∨ k = 11 ∨ k = 12 ∨ k = 13 ∨ k = 14 ∨ k = 15 ∨ k = 16 ∨ k = 17 ∨ k = 18 ∨ k = 19 ∨ k = 20 ∨ k = 21 ∨ k = 22 ∨ k = 23 ∨ k = 24 ∨ k = 25 ∨ k = 26 by omega) with rfl | rfl | rfl | rfl | rfl | rfl | rfl | rfl | rfl | rfl | rfl | rfl | rfl | rfl | rfl | rfl | rfl | rfl | rfl | rfl | rfl | rfl | rfl | rfl | rfl | rfl | rfl
        · exact lv_tableIn (tgt := 156) hx hb dL_law_32 (by omega) (by omega) (by rw [hk]; rfl) (by decide) (lq_case_0 hC h5 I next H locs ls hP hS hl hM hs)
        · exact lv_tableIn (tgt := 189) hx hb dL_law_32 (by omega) (by omega) (by rw [hk]; rfl) (by decide) (lq_case_1 hC h5 I next H locs ls hP hS hl hM hs)
        · exact lv_tableIn (tgt := 212) hx hb dL_law_32 (by omega) (by omega) (by rw [hk]; rfl) (by decide) (lq_case_2 hC h5 I next H locs ls hP hS hl hM hs)
        · exact lv_tableIn (tgt := 255) hx hb dL_law_32 (by omega) (by omega) (by rw [hk]; rfl) (by decide) (lq_case_3 hC h5 I next H locs ls hP hS hl hM hs)
        · exact lv_tableIn (tgt := 288) hx hb dL_law_32 (by omega) (by omega) (by rw [hk]; rfl) (by decide) (lq_case_4 hC h5 I next H locs ls hP hS hl hM hs)
        · exact lv_tableIn (tgt := 341) hx hb dL_law_32 (by omega) (by omega) (by rw [hk]; rfl) (by decide) (lq_case_5 hC h5 I next H locs ls hP hS hl hM hs)
        · exact lv_tableIn (tgt := 364) hx hb dL_law_32 (by omega) (by omega) (by rw [hk]; rfl) (by decide) (lq_case_6 hC h5 I next H locs ls hP hS hl hM hs)
        · exact lv_tableIn (tgt := 417) hx hb dL_law_32 (by omega) (by omega) (by rw [hk]; rfl) (by decide) (lq_case_7 hC h5 I next H locs ls hP hS hl hM hs)
        · exact lv_tableIn (tgt := 440) hx hb dL_law_32 (by omega) (by omega) (by rw [hk]; rfl) (by decide) (lq_case_8 hC h5 I next H locs ls hP hS hl hM hs)
        · exact lv_tableIn (tgt := 453) hx hb dL_law_32 (by omega) (by omega) (by rw [hk]; rfl) (by decide) (lq_case_9 hC h5 I next H locs ls hP hS hl hM hs)
        · exact lv_tableIn (tgt := 486) hx hb dL_law_32 (by omega) (by omega) (by rw [hk]; rfl) (by decide) (lq_case_10 hC h5 I next H locs ls hP hS hl hM hs)
        · exact lv_tableIn (tgt := 509) hx hb dL_law_32 (by omega) (by omega) (by rw [hk]; rfl) (by decide) (lq_case_11 hC h5 I next H locs ls hP hS hl hM hs)
        · exact lv_tableIn (tgt := 532) hx hb dL_law_32 (by omega) (by omega) (by rw [hk]; rfl) (by decide) (lq_case_12 hC h5 I next H locs ls hP hS hl hM hs)
        · exact lv_tableIn (tgt := 545) hx hb dL_law_32 (by omega) (by omega) (by rw [hk]; rfl) (by decide) (lq_case_13 hC h5 I next H locs ls hP hS hl hM hs)
        · exact lv_tableIn (tgt := 568) hx hb dL_law_32 (by omega) (by omega) (by rw [hk]; rfl) (by decide) (lq_case_14 hC h5 I next H locs ls hP hS hl hM hs)
        · exact lv_tableIn (tgt := 581) hx hb dL_law_32 (by omega) (by omega) (by rw [hk]; rfl) (by decide) (lq_case_15 hC h5 I next H locs ls hP hS hl hM hs)
        · exact lv_tableIn (tgt := 594) hx hb dL_law_32 (by omega) (by omega) (by rw [hk]; rfl) (by decide) (lq_case_16 hC h5 I next H locs ls hP hS hl hM hs)
        · exact lv_tableIn (tgt := 617) hx hb dL_law_32 (by omega) (by omega) (by rw [hk]; rfl) (by decide) (lq_case_17 hC h5 I next H locs ls hP hS hl hM hs)
        · exact lv_tableIn (tgt := 650) hx hb dL_law_32 (by omega) (by omega) (by rw [hk]; rfl) (by decide) (lq_case_18 hC h5 I next H locs ls hP hS hl hM hs)
        · exact lv_tableIn (tgt := 683) hx hb dL_law_32 (by omega) (by omega) (by rw [hk]; rfl) (by decide) (lq_case_19 hC h5 I next H locs ls hP hS hl hM hs)
        · exact lv_tableIn (tgt := 726) hx hb dL_law_32 (by omega) (by omega) (by rw [hk]; rfl) (by decide) (lq_case_20 hC h5 I next H locs ls hP hS hl hM hs)
        · exact lv_tableIn (tgt := 759) hx hb dL_law_32 (by omega) (by omega) (by rw [hk]; rfl) (by decide) (lq_case_21 hC h5 I next H locs ls hP hS hl hM hs)
        · exact lv_tableIn (tgt := 782) hx hb dL_law_32 (by omega) (by omega) (by rw [hk]; rfl) (by decide) (lq_case_22 hC h5 I next H locs ls hP hS hl hM hs)
        · exact lv_tableIn (tgt := 815) hx hb dL_law_32 (by omega) (by omega) (by rw [hk]; rfl) (by decide) (lq_case_23 hC h5 I next H locs ls hP hS hl hM hs)
        · exact lv_tableIn (tgt := 868) hx hb dL_law_32 (by omega) (by omega) (by rw [hk]; rfl) (by decide) (lq_case_24 hC h5 I next H locs ls hP hS hl hM hs)
        · exact lv_tableIn (tgt := 901) hx hb dL_law_32 (by omega) (by omega) (by rw [hk]; rfl) (by decide) (lq_case_25 hC h5 I next H locs ls hP hS hl hM hs)
        · exact lv_tableIn (tgt := 914) hx hb dL_law_32 (by omega) (by omega) (by rw [hk]; rfl) (by decide) (lq_case_26 hC h5 I next H locs ls hP hS hl hM hs)
end LQE
/-- the classes and the arrays, as the tables have them -/
theorem lq_known {s : State} {b : Nat} (hts0 : ∀ w ∈ lw_tbl, w.before #[Value.ref b] s = true) : ∃ (D : va_G) (cA : Nat → ClassId), va_K D vwCl (mv_tys cA) s := by
  have hts : ∀ w ∈ mv_tb, w.before #[Value.ref b] s = true := fun w hw => hts0 w (List.mem_filter.mp hw).1
  have kc : ∀ c : Nat, ∃ r : ClassId × (Nat → Nat), ∀ q : vw_C, vwCl[c]? = some q → u_Kn s q.1 q.2.1 q.2.2 r.1 r.2 := by
    have one : ∀ {c : Nat} {R : String} {T : u_T} {N : Nat} {ty : Nat → FieldType}, mv_CI c R T N ty → Cond.instantiable R N ∈ mv_tb → ∃ r : ClassId × (Nat → Nat), ∀ q : vw_C, vwCl[c]? = some q → u_Kn s q.1 q.2.1 q.2.2 r.1 r.2 := by
      intro c R T N ty hI hw
      obtain ⟨cC, iS, h⟩ := u_known hts hI.2.2.1 (hts _ hw)
      refine ⟨(cC, iS), fun q hq => ?_⟩
      rw [hI.2.1] at hq
      cases hq
      exact h
    intro c
    match c with
    | 0 => exact one mc_X0 wq_218
    | 1 => exact one mc_X1 wq_219
    | 2 => exact one mc_X2 wq_220
    | 3 => exact one mc_X3 wq_221
    | 4 => exact one mc_X4 wq_222
    | 5 => exact one mc_X5 wq_223
    | 6 => exact one mc_X6 wq_224
    | 7 => exact one mc_X7 wq_225
    | 8 => exact one mc_X8 wq_226
    | 9 => exact one mc_X9 wq_227
    | 10 => exact one mc_X10 wq_228
    | 11 => exact one mc_X11 wq_229
    | c + 12 =>
      obtain ⟨cC, iS, h⟩ := u_known hts mc_X0.2.2.1 (hts _ wq_218)
      exact ⟨(cC, iS), fun q hq => by simp at hq⟩
  have ka : ∀ i : Nat, ∃ r : ClassId, i < 7 → ArrOfT s r (mv_at i) ∧ va_RA s r (mv_at i) := by
    have prim : ∀ {ty : FieldType}, Cond.arrayClass ty ∈ mv_tb → ∃ r : ClassId, ArrOfT s r ty ∧ s.vm.findClass ("[" ++ ty.toString) = some r := by
      intro ty hw
      obtain ⟨cA, kA, comp, hfind, hk, hkind⟩ := Cond.arrayClass_spec (hts _ hw)
      exact ⟨cA, fun n z => ⟨(fun k h => by cases h), kA, hk, comp, hkind⟩, hfind⟩
    have over : ∀ {C : String}, Cond.arrayOver (.object C) ∈ lw_tbl → ∃ r : ClassId, ArrOfT s r (.object C) ∧ va_RA s r (.object C) := by
      intro C hw
      obtain ⟨comp, cc, k, h1, h2, h3, h4, h5⟩ := Cond.arrayOver_spec (hts0 _ hw)
      exact ⟨cc, fun n z => ⟨(fun k h => by cases h), k, h3, comp, h4⟩, k, comp, h3, h4, h1, h5⟩
    intro i
    match i with
    | 0 => obtain ⟨r, h1, h2⟩ := prim wq_236; exact ⟨r, fun _ => ⟨h1, h2⟩⟩
    | 1 => obtain ⟨r, h1, h2⟩ := prim wq_237; exact ⟨r, fun _ => ⟨h1, h2⟩⟩
    | 2 => obtain ⟨r, h⟩ := over wq_238; exact ⟨r, fun _ => h⟩
    | 3 => obtain ⟨r, h⟩ := over wq_239; exact ⟨r, fun _ => h⟩
    | 4 => obtain ⟨r, h⟩ := over wq_240; exact ⟨r, fun _ => h⟩
    | 5 => obtain ⟨r, h⟩ := over wq_241; exact ⟨r, fun _ => h⟩
    | 6 => obtain ⟨r, h⟩ := over wq_242; exact ⟨r, fun _ => h⟩
    | i + 7 => obtain ⟨r, h⟩ := over wq_238; exact ⟨r, fun z => absurd z (by omega)⟩
  obtain ⟨f, hf⟩ := Classical.axiomOfChoice kc
  obtain ⟨g, hg⟩ := Classical.axiomOfChoice ka
  refine ⟨(fun c => (f c).1, fun c => (f c).2), g, fun c q hq => hf c q hq, fun k q hq => ?_⟩
  by_cases h7 : k < 7
  · rw [mv_tys_at g h7] at hq
    cases hq
    exact hg k h7
  · rw [List.getElem?_eq_none (by simp [mv_tys]; omega)] at hq
    cases hq
theorem mg_mem_add {G : mg_G} {t j q : Nat} : (t, j) ∈ (mg_add G t j q).1 := List.mem_append_right _ (List.mem_singleton.mpr rfl)
theorem mg_add_at {G : mg_G} {t j q : Nat} : (mg_add G t j q).2.1 t j = q := by
  show (if t = t ∧ j = j then q else G.2.1 t j) = q
  rw [if_pos ⟨rfl, rfl⟩]
/-- a constructor called in the law -/
theorem lq_init {p : Program} {l : Launch} {e : Env} {s : State} {m : MethodId} {below : List Frame} {meth : Method} {c : Code} {b : Nat} {D : va_G} {cA : Nat → ClassId} {Qm : State → Prop} {pc idx lv C1 S1 t mxL nc ns : Nat} {y : MethodName} {bytes : ByteArray} {G : mg_G} {Q1 : mg_G → Prop} {H : Heap} {locs : List Loc} {ls : Array Slot}
    (hx : p.tables.exec = Jvm.exec) (hb : c.code = code) (hml : c.maxLocals = 4) (hown : s.vm.findClass R_law = some m.cls) (hts : ∀ w ∈ mv_tb, w.before #[Value.ref b] s = true) (hK : va_K D vwCl (mv_tys cA) s) (hN : mv_N s) (hAO : mg_AO s)
    (hd : decode code pc = .ok (.invokespecial idx, 3)) (hl : Cond.methodLink R_law idx y ∈ mv_tb) (hin : Cond.instanceMethod y ∈ mv_tb) (hy1 : y.name = "<init>") (hY : mv_Yk y bytes mxL none 0) (hlv : lv ≤ 9) (hls : lv_has ls 4 []) (hm : (t, 0) ∈ G.1) (hok : mg_ok G) (hP : va_P D vwCl (mg_ws cA G) H) (hD : va_D (fun q : Nat => s.heap.size ≤ q) (mg_ws cA G)) (hS : va_S (fun q : Nat => s.heap.size ≤ q) s.heap H locs) (hc : nc + C1 ≤ 600000) (hs : ns + S1 ≤ 7302250) (hEv : mg_Ev lv C1 S1 y bytes mxL G t 0 Q1)
    (kk : ∀ (G' : mg_G) (H' : Heap) (locs' : List Loc), Q1 G' → mg_ex G G' → mg_ok G' → va_P D vwCl (mg_ws cA G') H' → va_D (fun q : Nat => s.heap.size ≤ q) (mg_ws cA G') → va_S (fun q : Nat => s.heap.size ≤ q) s.heap H' locs' → W p l e room_1 s m #[Value.ref b] below meth c H' locs' (nc + C1) (ns + S1) Qm (F0 m (pc + 3) ls [.ref (G'.2.1 t 0)])) :
    W p l e room_1 s m #[Value.ref b] below meth c H locs nc ns Qm (F0 m pc ls [.ref (G.2.1 t 0), .ref (G.2.1 t 0)]) := by
  have hM := hEv l D cA H.size hm hok
  have hA : ∀ q : Nat, s.heap.size ≤ q → (fun q : Nat => s.heap.size ≤ q) q := fun _ h => h
  refine mg_goes (pc := pc) (maxL := 4) (L := []) (st' := [.inr (t, 0)]) (G := G) (G0 := G) (cA := cA) (D := D) (Q1 := Q1) (va_runI (As := []) (rest := [.ref (G.2.1 t 0)]) ⟨hx, hb, hml, hown, hts⟩ hM (cwI 0 hts (mv_goodIn hY.1) rfl rfl rfl (hts _ hY.2.1) (hts _ hl) (hts _ hin) hy1 ⟨hY.2.2.1.1, hY.2.2.1.2, hY.2.2.2.1⟩ ⟨by show lv + 1 + 1 ≤ 11; omega, by show 8 + (mxL + 11) + (40 + 30 * lv) ≤ 410; have := hY.2.2.2.2; omega⟩)
    ⟨mg_blind, fun U hU hW => ⟨rfl, by rw [hU], by rw [hU]; exact hP, hD.weaken (fun _ _ _ _ => trivial), va_K.moved hW.alike hK, mv_N.warm hW hN, hAO.moved hW.alike⟩⟩ rfl rfl hls.1 rfl (by show 2 * 0 + (1 + 0) ≤ 8; decide) hd ⟨hc, hs⟩) hD hS hA ⟨hls, Nat.zero_le _⟩ (fun i v h => by simp at h) (fun v h => ?_) mg_ex.rf (fun G' H' locs' hQ1 hex SS => ?_)
  · rw [List.mem_singleton.mp h]; exact hm
  · exact kk G' H' locs' hQ1 hex SS.2.2.2.2.2.2.1 SS.1 SS.2.1 SS.2.2.1
set_option maxRecDepth 100000 in
/-- THE LAW, from its entry -/
theorem whole_start {p : Program} {e : Env} {s : State} {m : MethodId} {below : List Frame} {meth : Method} {c : Code} (l : Launch) (hflags : l.flags = flags0) {b L : Nat} {xs : Nat → Int32} (hL : L ≤ 2560) (C0 : lw_At p s m meth c b L xs) : W p l e room_1 s m #[Value.ref b] below meth c s.heap [] 0 0 (lw_Z below #[Value.ref b] s) (entryFrame m ([Value.ref b] : List Value).toArray 4) := by
  obtain ⟨hx, hb, hr, hml, hown, hts0, hX, hbl, hlocks, hgv⟩ := id C0
  have hts : ∀ w ∈ mv_tb, w.before #[Value.ref b] s = true := fun w hw => hts0 w (List.mem_filter.mp hw).1
  have hA : ∀ q : Nat, s.heap.size ≤ q → (fun q : Nat => s.heap.size ≤ q) q := fun _ h => h
  have hN : mv_N s := fun q hq => va_Nw.of rfl (hts0 _ (lq_nest q hq))
  have hAO : mg_AO s := List.forall_mem_cons.mpr ⟨va_AO.of (hts0 _ wq_238), List.forall_mem_cons.mpr ⟨va_AO.of (hts0 _ wq_239), List.forall_mem_cons.mpr ⟨va_AO.of (hts0 _ wq_240), List.forall_mem_cons.mpr ⟨va_AO.of (hts0 _ wq_241), List.forall_mem_cons.mpr ⟨va_AO.of (hts0 _ wq_242), fun _ h => by cases h⟩⟩⟩⟩⟩
  obtain ⟨D, cA, hK⟩ := lq_known hts0
  obtain ⟨X, X2, hr1, hin, hr2, hck⟩ := sy_fin_at
  have hS : va_S (fun q : Nat => s.heap.size ≤ q) s.heap s.heap [] := va_S.rf
  obtain ⟨G0, hG0⟩ : ∃ G0 : mg_G, G0 = ([], (fun _ _ => 0), (fun _ _ _ => none), (fun _ _ _ => 0)) := ⟨_, rfl⟩
  have hI0 : G0.1 = [] := by rw [hG0]
  have hZ0 : ∀ t j k, G0.2.2.1 t j k = none ∧ G0.2.2.2 t j k = 0 := fun t j k => by rw [hG0]; exact ⟨rfl, rfl⟩
  have hok0 : mg_ok G0 := fun t j _ k => hZ0 t j k
  have hn0 : (10, 0) ∉ G0.1 := by rw [hI0]; exact fun h => by cases h
  have hm0 : sy_m ([], [], []) G0 := ⟨(fun t j => by rw [hI0]; exact ⟨(fun h => by cases h), (fun h => by cases h)⟩), (fun t j k => (hZ0 t j k).1), (fun t j k y h => by cases h), fun t j k => (hZ0 t j k).2⟩
  have hw0 : mg_ws cA G0 = [] := by unfold mg_ws; rw [hI0]; rfl
  have hP : va_P D vwCl (mg_ws cA G0) s.heap := fun k q h => by rw [hw0] at h; simp at h
  have hD : va_D (fun q : Nat => s.heap.size ≤ q) (mg_ws cA G0) := ⟨(fun i j p q h => by rw [hw0] at h; simp at h), fun k q h => by rw [hw0] at h; simp at h⟩
  have hl := lv_entry ([.ref b]) (n := 4) (Nat.le_of_ble_eq_true rfl)
  rw [lg_entry_eq]
  generalize (lg_sl ([.ref b]) ++ List.replicate (4 - (lg_sl ([.ref b])).length) Slot.unset).toArray = ls at hl ⊢
  have hl : lv_has ls 4 [(0, .ref b)] := hl
  refine va_new (ci := 10) (fs := mg_fs G0 10 0) (C := RX10) (T := TX10) (N := 7) hx hb hts mi_X10 tyX10 tyX10_ok hown (hts _ wq_230) (hts _ wq_228) (hts _ wq_4) hK hP hD hS hA rfl (nd_X10 G0 0 (fun k => hZ0 10 0 k)) (by decide) (by decide) dL_law_0 (fun q H1 hP hD hS => ?_)
  have ec : (Sum.inr (10, mg_fs G0 10 0) : va_E) = mg_cell cA G0 10 0 := (mg_cell_obj (by decide)).symm
  rw [ec, ← mg_ws_add hn0] at hP hD
  have hok1 : mg_ok (mg_add G0 10 0 q) := hok0.add
  have hm1 : sy_m ([(10, 0)], [], []) (mg_add G0 10 0 q) := hm0.add rfl
  have hi1 : (10, 0) ∈ (mg_add G0 10 0 q).1 := mg_mem_add
  have ea : q = (mg_add G0 10 0 q).2.1 10 0 := mg_add_at.symm
  refine lv_dup hx hb dL_law_3 rfl ?_
  generalize mg_add G0 10 0 q = G1 at *
  rw [ea]
  refine lq_init hx hb hml hown hts hK hN hAO dL_law_4 wq_231 wq_232 rfl yk_X10_init (by decide) (lv_sub hl [] rfl) hi1 hok1 hP hD hS (by decide) (by decide) (mg_ev (sy_ny 10).1 (sy_ny 10).2.1 (fun _ => sy_ent (sy_ny 10).2.2 (sy_run_good _ _ _ _ _ _ _ _ _ hr1 G1 (fun G' => sy_m X G') hm1 (fun G' h => h)))) (fun G2 H2 locs2 hm2 hex2 hok2 hP hD hS => ?_)
  have hi2 : (10, 0) ∈ G2.1 := hex2.1 _ hi1
  have hn2 : (11, 0) ∉ G2.1 := fun z => by rw [(hm2.1 11 0).mp z] at hin; cases hin
  refine lv_astore_n (lv' := [(1, .ref (G2.2.1 10 0)), (0, .ref b)]) hx hb dL_law_7 rfl hl (by decide) rfl (fun ls hl => ?_)
  refine va_new (ci := 11) (fs := mg_fs G2 11 0) (C := RX11) (T := TX11) (N := 19) hx hb hts mi_X11 tyX11 tyX11_ok hown (hts _ wq_233) (hts _ wq_229) (hts _ wq_9) hK hP hD hS hA rfl (nd_X11 G2 0 (fun k => hok2 11 0 hn2 k)) (by decide) (by decide) dL_law_8 (fun q2 H3 hP hD hS => ?_)
  have ec2 : (Sum.inr (11, mg_fs G2 11 0) : va_E) = mg_cell cA G2 11 0 := (mg_cell_obj (by decide)).symm
  rw [ec2, ← mg_ws_add hn2] at hP hD
  have hok3 : mg_ok (mg_add G2 11 0 q2) := hok2.add
  have hm3 : sy_m ((11, 0) :: X.1, X.2.1, X.2.2) (mg_add G2 11 0 q2) := hm2.add hin
  have hi3 : (11, 0) ∈ (mg_add G2 11 0 q2).1 := mg_mem_add
  have hex3 : mg_ex G2 (mg_add G2 11 0 q2) := mg_ex.add hn2
  have ea2 : q2 = (mg_add G2 11 0 q2).2.1 11 0 := mg_add_at.symm
  refine lv_dup hx hb dL_law_11 rfl ?_
  generalize mg_add G2 11 0 q2 = G3 at *
  rw [ea2]
  refine lq_init hx hb hml hown hts hK hN hAO dL_law_12 wq_234 wq_235 rfl yk_X11_init (by decide) (lv_sub hl [] rfl) hi3 hok3 hP hD hS (by decide) (by decide) (mg_ev (sy_ny 11).1 (sy_ny 11).2.1 (fun _ => sy_ent (sy_ny 11).2.2 (sy_run_good _ _ _ _ _ _ _ _ _ hr2 G3 (fun G' => sy_m X2 G') hm3 (fun G' h => h)))) (fun G4 H4 locs4 hm4 hex4 hok4 hP hD hS => ?_)
  have e10 : G2.2.1 10 0 = G4.2.1 10 0 := ((hex4.2 10 0 (hex3.1 _ hi2)).trans (hex3.2 10 0 hi2)).symm
  rw [e10] at hl
  refine lv_astore_n (lv' := [(2, .ref (G4.2.1 11 0)), (1, .ref (G4.2.1 10 0)), (0, .ref b)]) hx hb dL_law_15 rfl hl (by decide) rfl (fun ls hl => ?_)
  refine lv_iconst (v := Int32.ofInt ((0 : Nat) : Int)) hx hb dL_law_16 (by decide) ?_
  refine lv_istore_n (lv' := [(3, .int (Int32.ofInt ((0 : Nat) : Int))), (2, .ref (G4.2.1 11 0)), (1, .ref (G4.2.1 10 0)), (0, .ref b)]) hx hb dL_law_17 rfl hl (by decide) rfl (fun ls hl => ?_)
  have hrd := sy_ready hm4 hck
  have hC : lq_C p l e s m below meth c b L xs D cA G4.2.1 := by
    refine ⟨C0, hL, hK, hN, mg_toD hm4 hck hD, fun q hq => ?_⟩
    obtain ⟨t, j, htj, rfl⟩ := hq
    have hx2 := mv_mem_IX htj
    obtain ⟨k, hk⟩ := List.getElem?_of_mem (hrd.1 t j hx2.1 hx2.2)
    exact hD.2 k (G4.2.1 t j, mg_cell cA G4 t j) (by simp only [mg_ws, List.getElem?_map, hk]; rfl)
  exact lq_loop hC (L + 1) 0 mg_M0 qg_F0 (Nat.zero_le _) (by omega) ⟨mg_M0_X, mg_M0_Z, qg_F0_w⟩ H4 locs4 ls (mg_toP hm4 hck hP) hS (lv_sub hl [3, 2, 1, 0] rfl) mg_M0_ok (fun v h => by cases h)
