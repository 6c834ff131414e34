/-! The law's machine: its plain instructions are sound. -/
theorem mxs_no {X : mw_X} {pc : Nat} : mw_Snd X pc mx_no := fun _ _ _ _ h => h.elim
theorem mxs_end {X : mw_X} {pc : Nat} {E : List mw_V → mv_M → Prop} (h : ∀ L st M, E st M → mw_G X pc L st M) : mw_Snd X pc (mx_end E) := fun _ L st M hE _ => h L st M hE
theorem mxs_iconst {X : mw_X} (hX : mw_Cx X) {pc : Nat} {n : Int} (hd : decode (mw_ro X) pc = .ok (.iconst n, 1)) (hn : -2147483648 ≤ n ∧ n ≤ 2147483647) : mw_Snd X pc (mx_const n (pc + 1)) := by
  obtain ⟨p, l, e, R, s, m, args, below, meth, c, ad, D, cA, A, maxL, nc, ns, Qm, cc, own⟩ := X
  obtain ⟨hx, hb, hml, hown, hts, hK, hN, hD, hA⟩ := hX
  have hd : decode cc pc = .ok (.iconst n, 1) := hd
  intro K L st M h k H locs ls S
  exact lv_iconst hx hb hd rfl (k _ _ (.inl (.inl n) :: st) _ h H locs ls ⟨S.1, S.2.1, S.2.2.1, S.2.2.2.1, S.2.2.2.2.1.cons hn, S.2.2.2.2.2⟩)
theorem mxs_bipush {X : mw_X} (hX : mw_Cx X) {pc : Nat} {n : Int} (hd : decode (mw_ro X) pc = .ok (.bipush n, 2)) (hv : (Int8.ofInt n).toInt32 = Int32.ofInt n) (hn : -2147483648 ≤ n ∧ n ≤ 2147483647) : mw_Snd X pc (mx_const n (pc + 2)) := by
  obtain ⟨p, l, e, R, s, m, args, below, meth, c, ad, D, cA, A, maxL, nc, ns, Qm, cc, own⟩ := X
  obtain ⟨hx, hb, hml, hown, hts, hK, hN, hD, hA⟩ := hX
  have hd : decode cc pc = .ok (.bipush n, 2) := hd
  intro K L st M h k H locs ls S
  exact lv_bipush hx hb hd hv (k _ _ (.inl (.inl n) :: st) _ h H locs ls ⟨S.1, S.2.1, S.2.2.1, S.2.2.2.1, S.2.2.2.2.1.cons hn, S.2.2.2.2.2⟩)
theorem mxs_sipush {X : mw_X} (hX : mw_Cx X) {pc : Nat} {n : Int} (hd : decode (mw_ro X) pc = .ok (.sipush n, 3)) (hv : (Int16.ofInt n).toInt32 = Int32.ofInt n) (hn : -2147483648 ≤ n ∧ n ≤ 2147483647) : mw_Snd X pc (mx_const n (pc + 3)) := by
  obtain ⟨p, l, e, R, s, m, args, below, meth, c, ad, D, cA, A, maxL, nc, ns, Qm, cc, own⟩ := X
  obtain ⟨hx, hb, hml, hown, hts, hK, hN, hD, hA⟩ := hX
  have hd : decode cc pc = .ok (.sipush n, 3) := hd
  intro K L st M h k H locs ls S
  exact lv_sipush hx hb hd hv (k _ _ (.inl (.inl n) :: st) _ h H locs ls ⟨S.1, S.2.1, S.2.2.1, S.2.2.2.1, S.2.2.2.2.1.cons hn, S.2.2.2.2.2⟩)
theorem mxs_ldc2 {X : mw_X} (hX : mw_Cx X) {pc idx : Nat} {n : Int64} (hd : decode (mw_ro X) pc = .ok (.ldc2_w idx, 3)) (hw : Cond.constantLong (mw_own X) idx n ∈ mv_tb) : mw_Snd X pc (mx_long n (pc + 3)) := by
  obtain ⟨p, l, e, R, s, m, args, below, meth, c, ad, D, cA, A, maxL, nc, ns, Qm, cc, own⟩ := X
  obtain ⟨hx, hb, hml, hown, hts, hK, hN, hD, hA⟩ := hX
  have hd : decode cc pc = .ok (.ldc2_w idx, 3) := hd
  intro K L st M h k H locs ls S
  exact lv_ldc2 hx hb hown (hts _ hw) hd (k _ _ (.inr (.long n) :: st) _ h H locs ls ⟨S.1, S.2.1, S.2.2.1, S.2.2.2.1, S.2.2.2.2.1.cons (show mw_vok (.inr (.long n)) from trivial), S.2.2.2.2.2⟩)
theorem mxs_iload_n {X : mw_X} (hX : mw_Cx X) {pc : Nat} {q : Fin 4} {i : Nat} (hd : decode (mw_ro X) pc = .ok (.iload_n q, 1)) (hi : (q : Nat) = i) : mw_Snd X pc (mx_iload i (pc + 1)) := by
  obtain ⟨p, l, e, R, s, m, args, below, meth, c, ad, D, cA, A, maxL, nc, ns, Qm, cc, own⟩ := X
  obtain ⟨hx, hb, hml, hown, hts, hK, hN, hD, hA⟩ := hX
  have hd : decode cc pc = .ok (.iload_n q, 1) := hd
  intro K L st M h k H locs ls S
  obtain ⟨v, hv, h⟩ := mw_get_at h
  match v, hv, h with
  | .inl (.inl x), hv, h => exact lv_iload_n hx hb hd hi (S.2.2.1.at hv) (k _ _ (.inl (.inl x) :: st) _ h H locs ls ⟨S.1, S.2.1, S.2.2.1, S.2.2.2.1, S.2.2.2.2.1.cons (S.2.2.2.1 _ _ hv), S.2.2.2.2.2⟩)
theorem mxs_aload_n {X : mw_X} (hX : mw_Cx X) {pc : Nat} {q : Fin 4} {i : Nat} (hd : decode (mw_ro X) pc = .ok (.aload_n q, 1)) (hi : (q : Nat) = i) : mw_Snd X pc (mx_aload i (pc + 1)) := by
  obtain ⟨p, l, e, R, s, m, args, below, meth, c, ad, D, cA, A, maxL, nc, ns, Qm, cc, own⟩ := X
  obtain ⟨hx, hb, hml, hown, hts, hK, hN, hD, hA⟩ := hX
  have hd : decode cc pc = .ok (.aload_n q, 1) := hd
  intro K L st M h k H locs ls S
  obtain ⟨v, hv, h⟩ := mw_get_at h
  match v, hv, h with
  | .inl (.inr x), hv, h => exact lv_aload_n hx hb hd hi (S.2.2.1.at hv) (k _ _ (.inl (.inr x) :: st) _ h H locs ls ⟨S.1, S.2.1, S.2.2.1, S.2.2.2.1, S.2.2.2.2.1.cons (S.2.2.2.1 _ _ hv), S.2.2.2.2.2⟩)
  | .inr (.ref b), hv, h => exact lv_aload_n hx hb hd hi (S.2.2.1.at hv) (k _ _ (.inr (.ref b) :: st) _ h H locs ls ⟨S.1, S.2.1, S.2.2.1, S.2.2.2.1, S.2.2.2.2.1.cons (S.2.2.2.1 _ _ hv), S.2.2.2.2.2⟩)
theorem mxs_lload_n {X : mw_X} (hX : mw_Cx X) {pc : Nat} {q : Fin 4} {i : Nat} (hd : decode (mw_ro X) pc = .ok (.lload_n q, 1)) (hi : (q : Nat) = i) : mw_Snd X pc (mx_lload i (pc + 1)) := by
  obtain ⟨p, l, e, R, s, m, args, below, meth, c, ad, D, cA, A, maxL, nc, ns, Qm, cc, own⟩ := X
  obtain ⟨hx, hb, hml, hown, hts, hK, hN, hD, hA⟩ := hX
  have hd : decode cc pc = .ok (.lload_n q, 1) := hd
  intro K L st M h k H locs ls S
  obtain ⟨v, hv, h⟩ := mw_get_at h
  match v, hv, h with
  | .inr (.long x), hv, h => exact lv_lload_n hx hb hd hi (S.2.2.1.at hv) (k _ _ (.inr (.long x) :: st) _ h H locs ls ⟨S.1, S.2.1, S.2.2.1, S.2.2.2.1, S.2.2.2.2.1.cons (S.2.2.2.1 _ _ hv), S.2.2.2.2.2⟩)
theorem mxs_istore_n {X : mw_X} (hX : mw_Cx X) {pc : Nat} {q : Fin 4} {i : Nat} (hd : decode (mw_ro X) pc = .ok (.istore_n q, 1)) (hi : (q : Nat) = i) : mw_Snd X pc (mx_istore i (pc + 1)) := by
  obtain ⟨p, l, e, R, s, m, args, below, meth, c, ad, D, cA, A, maxL, nc, ns, Qm, cc, own⟩ := X
  obtain ⟨hx, hb, hml, hown, hts, hK, hN, hD, hA⟩ := hX
  have hd : decode cc pc = .ok (.istore_n q, 1) := hd
  intro K L st M h k H locs ls S
  match st, h, S with
  | .inl (.inl x) :: st', h, S =>
    obtain ⟨hl, hn, h⟩ := mw_set_at h
    refine lv_istore_n hx hb hd hi S.2.2.1.1 (Nat.lt_of_lt_of_le hl S.2.2.1.2) rfl (fun ls' hl' => ?_)
    exact k _ _ _ _ h H locs ls' ⟨S.1, S.2.1, S.2.2.1.put (v := .inl (.inl x)) hn hl', S.2.2.2.1.set S.2.2.2.2.1.hd, S.2.2.2.2.1.tl, S.2.2.2.2.2⟩
theorem mxs_lstore_n {X : mw_X} (hX : mw_Cx X) {pc : Nat} {q : Fin 4} {i : Nat} (hd : decode (mw_ro X) pc = .ok (.lstore_n q, 1)) (hi : (q : Nat) = i) : mw_Snd X pc (mx_lstore i (pc + 1)) := by
  obtain ⟨p, l, e, R, s, m, args, below, meth, c, ad, D, cA, A, maxL, nc, ns, Qm, cc, own⟩ := X
  obtain ⟨hx, hb, hml, hown, hts, hK, hN, hD, hA⟩ := hX
  have hd : decode cc pc = .ok (.lstore_n q, 1) := hd
  intro K L st M h k H locs ls S
  match st, h, S with
  | .inr (.long x) :: st', h, S =>
    obtain ⟨hl, hn, h⟩ := mw_set2_at h
    refine lv_lstore_n hx hb hd hi S.2.2.1.1 (Nat.lt_of_lt_of_le hl S.2.2.1.2) rfl (fun ls' hl' => ?_)
    exact k _ _ _ _ h H locs ls' ⟨S.1, S.2.1, S.2.2.1.put2 (v := .inr (.long x)) hn hl', (S.2.2.2.1.set (i := i) S.2.2.2.2.1.hd).setN, S.2.2.2.2.1.tl, S.2.2.2.2.2⟩
theorem mxs_iload {X : mw_X} (hX : mw_Cx X) {pc : Nat} {i : Nat} (hd : decode (mw_ro X) pc = .ok (.iload i, 2)) : mw_Snd X pc (mx_iload i (pc + 2)) := by
  obtain ⟨p, l, e, R, s, m, args, below, meth, c, ad, D, cA, A, maxL, nc, ns, Qm, cc, own⟩ := X
  obtain ⟨hx, hb, hml, hown, hts, hK, hN, hD, hA⟩ := hX
  have hd : decode cc pc = .ok (.iload i, 2) := hd
  intro K L st M h k H locs ls S
  obtain ⟨v, hv, h⟩ := mw_get_at h
  match v, hv, h with
  | .inl (.inl x), hv, h => exact lv_iload hx hb hd (S.2.2.1.at hv) (k _ _ (.inl (.inl x) :: st) _ h H locs ls ⟨S.1, S.2.1, S.2.2.1, S.2.2.2.1, S.2.2.2.2.1.cons (S.2.2.2.1 _ _ hv), S.2.2.2.2.2⟩)
theorem mxs_aload {X : mw_X} (hX : mw_Cx X) {pc : Nat} {i : Nat} (hd : decode (mw_ro X) pc = .ok (.aload i, 2)) : mw_Snd X pc (mx_aload i (pc + 2)) := by
  obtain ⟨p, l, e, R, s, m, args, below, meth, c, ad, D, cA, A, maxL, nc, ns, Qm, cc, own⟩ := X
  obtain ⟨hx, hb, hml, hown, hts, hK, hN, hD, hA⟩ := hX
  have hd : decode cc pc = .ok (.aload i, 2) := hd
  intro K L st M h k H locs ls S
  obtain ⟨v, hv, h⟩ := mw_get_at h
  match v, hv, h with
  | .inl (.inr x), hv, h => exact lv_aload hx hb hd (S.2.2.1.at hv) (k _ _ (.inl (.inr x) :: st) _ h H locs ls ⟨S.1, S.2.1, S.2.2.1, S.2.2.2.1, S.2.2.2.2.1.cons (S.2.2.2.1 _ _ hv), S.2.2.2.2.2⟩)
  | .inr (.ref b), hv, h => exact lv_aload hx hb hd (S.2.2.1.at hv) (k _ _ (.inr (.ref b) :: st) _ h H locs ls ⟨S.1, S.2.1, S.2.2.1, S.2.2.2.1, S.2.2.2.2.1.cons (S.2.2.2.1 _ _ hv), S.2.2.2.2.2⟩)
theorem mxs_lload {X : mw_X} (hX : mw_Cx X) {pc : Nat} {i : Nat} (hd : decode (mw_ro X) pc = .ok (.lload i, 2)) : mw_Snd X pc (mx_lload i (pc + 2)) := by
  obtain ⟨p, l, e, R, s, m, args, below, meth, c, ad, D, cA, A, maxL, nc, ns, Qm, cc, own⟩ := X
  obtain ⟨hx, hb, hml, hown, hts, hK, hN, hD, hA⟩ := hX
  have hd : decode cc pc = .ok (.lload i, 2) := hd
  intro K L st M h k H locs ls S
  obtain ⟨v, hv, h⟩ := mw_get_at h
  match v, hv, h with
  | .inr (.long x), hv, h => exact lv_lload hx hb hd (S.2.2.1.at hv) (k _ _ (.inr (.long x) :: st) _ h H locs ls ⟨S.1, S.2.1, S.2.2.1, S.2.2.2.1, S.2.2.2.2.1.cons (S.2.2.2.1 _ _ hv), S.2.2.2.2.2⟩)
theorem mxs_istore {X : mw_X} (hX : mw_Cx X) {pc : Nat} {i : Nat} (hd : decode (mw_ro X) pc = .ok (.istore i, 2)) : mw_Snd X pc (mx_istore i (pc + 2)) := by
  obtain ⟨p, l, e, R, s, m, args, below, meth, c, ad, D, cA, A, maxL, nc, ns, Qm, cc, own⟩ := X
  obtain ⟨hx, hb, hml, hown, hts, hK, hN, hD, hA⟩ := hX
  have hd : decode cc pc = .ok (.istore i, 2) := hd
  intro K L st M h k H locs ls S
  match st, h, S with
  | .inl (.inl x) :: st', h, S =>
    obtain ⟨hl, hn, h⟩ := mw_set_at h
    refine lv_istore hx hb hd S.2.2.1.1 (Nat.lt_of_lt_of_le hl S.2.2.1.2) rfl (fun ls' hl' => ?_)
    exact k _ _ _ _ h H locs ls' ⟨S.1, S.2.1, S.2.2.1.put (v := .inl (.inl x)) hn hl', S.2.2.2.1.set S.2.2.2.2.1.hd, S.2.2.2.2.1.tl, S.2.2.2.2.2⟩
theorem mxs_lstore {X : mw_X} (hX : mw_Cx X) {pc : Nat} {i : Nat} (hd : decode (mw_ro X) pc = .ok (.lstore i, 2)) : mw_Snd X pc (mx_lstore i (pc + 2)) := by
  obtain ⟨p, l, e, R, s, m, args, below, meth, c, ad, D, cA, A, maxL, nc, ns, Qm, cc, own⟩ := X
  obtain ⟨hx, hb, hml, hown, hts, hK, hN, hD, hA⟩ := hX
  have hd : decode cc pc = .ok (.lstore i, 2) := hd
  intro K L st M h k H locs ls S
  match st, h, S with
  | .inr (.long x) :: st', h, S =>
    obtain ⟨hl, hn, h⟩ := mw_set2_at h
    refine lv_lstore hx hb hd S.2.2.1.1 (Nat.lt_of_lt_of_le hl S.2.2.1.2) rfl (fun ls' hl' => ?_)
    exact k _ _ _ _ h H locs ls' ⟨S.1, S.2.1, S.2.2.1.put2 (v := .inr (.long x)) hn hl', (S.2.2.2.1.set (i := i) S.2.2.2.2.1.hd).setN, S.2.2.2.2.1.tl, S.2.2.2.2.2⟩
theorem mxs_iinc {X : mw_X} (hX : mw_Cx X) {pc : Nat} {i : Nat} {n : Int} (hd : decode (mw_ro X) pc = .ok (.iinc i n, 3)) : mw_Snd X pc (mx_iinc i n (pc + 3)) := by
  obtain ⟨p, l, e, R, s, m, args, below, meth, c, ad, D, cA, A, maxL, nc, ns, Qm, cc, own⟩ := X
  obtain ⟨hx, hb, hml, hown, hts, hK, hN, hD, hA⟩ := hX
  have hd : decode cc pc = .ok (.iinc i n, 3) := hd
  intro K L st M h k H locs ls S
  obtain ⟨v, hv, h⟩ := mw_get_at h
  match v, hv, h with
  | .inl (.inl x), hv, h =>
    obtain ⟨hl, hn, h2⟩ := mw_set_at h.2
    obtain ⟨kk, hkk⟩ := List.getElem?_of_mem (mw_pr_mem (ad := ad).mpr ⟨_, hv, rfl⟩)
    refine lv_iinc hx hb hd S.2.2.1.1 hkk (mv_add x n) (Nat.lt_of_lt_of_le hl S.2.2.1.2) rfl (fun ls' hl' => ?_)
    exact k _ _ _ _ h2 H locs ls' ⟨S.1, S.2.1, S.2.2.1.put (v := .inl (.inl (x + n))) hn hl', S.2.2.2.1.set h.1, S.2.2.2.2.1, S.2.2.2.2.2⟩
theorem mxs_iadd {X : mw_X} (hX : mw_Cx X) {pc : Nat} (hd : decode (mw_ro X) pc = .ok (.iadd, 1)) : mw_Snd X pc (mx_iadd (pc + 1)) := by
  obtain ⟨p, l, e, R, s, m, args, below, meth, c, ad, D, cA, A, maxL, nc, ns, Qm, cc, own⟩ := X
  obtain ⟨hx, hb, hml, hown, hts, hK, hN, hD, hA⟩ := hX
  have hd : decode cc pc = .ok (.iadd, 1) := hd
  intro K L st M h k H locs ls S
  match st, h, S with
  | .inl (.inl y) :: .inl (.inl x) :: st', h, S =>
    refine lv_iadd hx hb hd ?_
    rw [mv_add]
    exact k _ _ (.inl (.inl (x + y)) :: st') _ h.2 H locs ls ⟨S.1, S.2.1, S.2.2.1, S.2.2.2.1, S.2.2.2.2.1.tl.tl.cons (h.1), S.2.2.2.2.2⟩
theorem mxs_iand {X : mw_X} (hX : mw_Cx X) {pc : Nat} (hd : decode (mw_ro X) pc = .ok (.iand, 1)) : mw_Snd X pc (mx_iand (pc + 1)) := by
  obtain ⟨p, l, e, R, s, m, args, below, meth, c, ad, D, cA, A, maxL, nc, ns, Qm, cc, own⟩ := X
  obtain ⟨hx, hb, hml, hown, hts, hK, hN, hD, hA⟩ := hX
  have hd : decode cc pc = .ok (.iand, 1) := hd
  intro K L st M h k H locs ls S
  match st, h, S with
  | .inl (.inl y) :: .inl (.inl x) :: st', h, S =>
    refine lv_iand hx hb hd ?_
    rw [show Int32.ofInt x &&& Int32.ofInt y = Int32.ofInt (mv_and x y) from (Int32.ofInt_toInt _).symm]
    exact k _ _ (.inl (.inl (mv_and x y)) :: st') _ h H locs ls ⟨S.1, S.2.1, S.2.2.1, S.2.2.2.1, S.2.2.2.2.1.tl.tl.cons (mv_and_r x y), S.2.2.2.2.2⟩
theorem mxs_ishr {X : mw_X} (hX : mw_Cx X) {pc : Nat} (hd : decode (mw_ro X) pc = .ok (.ishr, 1)) : mw_Snd X pc (mx_ishr (pc + 1)) := by
  obtain ⟨p, l, e, R, s, m, args, below, meth, c, ad, D, cA, A, maxL, nc, ns, Qm, cc, own⟩ := X
  obtain ⟨hx, hb, hml, hown, hts, hK, hN, hD, hA⟩ := hX
  have hd : decode cc pc = .ok (.ishr, 1) := hd
  intro K L st M h k H locs ls S
  match st, h, S with
  | .inl (.inl y) :: .inl (.inl x) :: st', h, S =>
    refine lv_ishr hx hb hd ?_
    rw [show Int32.ofInt x >>> (Int32.ofInt y &&& 31) = Int32.ofInt (mv_shr x y) from (Int32.ofInt_toInt _).symm]
    exact k _ _ (.inl (.inl (mv_shr x y)) :: st') _ h H locs ls ⟨S.1, S.2.1, S.2.2.1, S.2.2.2.1, S.2.2.2.2.1.tl.tl.cons (mv_shr_r x y), S.2.2.2.2.2⟩
theorem mxs_idiv {X : mw_X} (hX : mw_Cx X) {pc : Nat} (hd : decode (mw_ro X) pc = .ok (.idiv, 1)) : mw_Snd X pc (mx_idiv (pc + 1)) := by
  obtain ⟨p, l, e, R, s, m, args, below, meth, c, ad, D, cA, A, maxL, nc, ns, Qm, cc, own⟩ := X
  obtain ⟨hx, hb, hml, hown, hts, hK, hN, hD, hA⟩ := hX
  have hd : decode cc pc = .ok (.idiv, 1) := hd
  intro K L st M h k H locs ls S
  match st, h, S with
  | .inl (.inl y) :: .inl (.inl x) :: st', h, S =>
    have hy : -2147483648 ≤ y ∧ y ≤ 2147483647 := S.2.2.2.2.1.hd
    have hx2 : -2147483648 ≤ x ∧ x ≤ 2147483647 := S.2.2.2.2.1.tl.hd
    have hq : 0 ≤ x / y ∧ x / y ≤ x := ⟨Int.ediv_nonneg h.1.1 (by have := h.1.2; omega), Int.ediv_le_self y h.1.1⟩
    refine lv_idiv hx hb hd (fun e0 => ?_) ?_
    · have := (mv_ieq hy mv_r0).mp e0
      have := h.1.2
      omega
    · rw [mv_div ⟨h.1.1, hx2.2⟩ ⟨h.1.2, hy.2⟩]
      exact k _ _ (.inl (.inl (x / y)) :: st') _ h.2 H locs ls ⟨S.1, S.2.1, S.2.2.1, S.2.2.2.1, S.2.2.2.2.1.tl.tl.cons (show _ ∧ _ from ⟨by omega, by omega⟩), S.2.2.2.2.2⟩
theorem mxs_irem {X : mw_X} (hX : mw_Cx X) {pc : Nat} (hd : decode (mw_ro X) pc = .ok (.irem, 1)) : mw_Snd X pc (mx_irem (pc + 1)) := by
  obtain ⟨p, l, e, R, s, m, args, below, meth, c, ad, D, cA, A, maxL, nc, ns, Qm, cc, own⟩ := X
  obtain ⟨hx, hb, hml, hown, hts, hK, hN, hD, hA⟩ := hX
  have hd : decode cc pc = .ok (.irem, 1) := hd
  intro K L st M h k H locs ls S
  match st, h, S with
  | .inl (.inl y) :: .inl (.inl x) :: st', h, S =>
    have hy : -2147483648 ≤ y ∧ y ≤ 2147483647 := S.2.2.2.2.1.hd
    have hx2 : -2147483648 ≤ x ∧ x ≤ 2147483647 := S.2.2.2.2.1.tl.hd
    have hq : 0 ≤ x % y ∧ x % y < y := ⟨Int.emod_nonneg _ (by have := h.1.2; omega), Int.emod_lt_of_pos _ h.1.2⟩
    refine lv_irem hx hb hd (fun e0 => ?_) ?_
    · have := (mv_ieq hy mv_r0).mp e0
      have := h.1.2
      omega
    · rw [mv_rem ⟨h.1.1, hx2.2⟩ ⟨h.1.2, hy.2⟩]
      exact k _ _ (.inl (.inl (x % y)) :: st') _ h.2 H locs ls ⟨S.1, S.2.1, S.2.2.1, S.2.2.2.1, S.2.2.2.2.1.tl.tl.cons (show _ ∧ _ from ⟨by omega, by omega⟩), S.2.2.2.2.2⟩
theorem mxs_i2l {X : mw_X} (hX : mw_Cx X) {pc : Nat} (hd : decode (mw_ro X) pc = .ok (.i2l, 1)) : mw_Snd X pc (mx_i2l (pc + 1)) := by
  obtain ⟨p, l, e, R, s, m, args, below, meth, c, ad, D, cA, A, maxL, nc, ns, Qm, cc, own⟩ := X
  obtain ⟨hx, hb, hml, hown, hts, hK, hN, hD, hA⟩ := hX
  have hd : decode cc pc = .ok (.i2l, 1) := hd
  intro K L st M h k H locs ls S
  match st, h, S with
  | .inl (.inl x) :: st', h, S =>
    exact lv_i2l hx hb hd rfl (k _ _ (.inr (.long (Int32.ofInt x).toInt64) :: st') _ h H locs ls ⟨S.1, S.2.1, S.2.2.1, S.2.2.2.1, S.2.2.2.2.1.tl.cons (show mw_vok (.inr _) from trivial), S.2.2.2.2.2⟩)
theorem mxs_lmul {X : mw_X} (hX : mw_Cx X) {pc : Nat} (hd : decode (mw_ro X) pc = .ok (.lmul, 1)) : mw_Snd X pc (mx_lmul (pc + 1)) := by
  obtain ⟨p, l, e, R, s, m, args, below, meth, c, ad, D, cA, A, maxL, nc, ns, Qm, cc, own⟩ := X
  obtain ⟨hx, hb, hml, hown, hts, hK, hN, hD, hA⟩ := hX
  have hd : decode cc pc = .ok (.lmul, 1) := hd
  intro K L st M h k H locs ls S
  match st, h, S with
  | .inr (.long y) :: .inr (.long x) :: st', h, S =>
    exact lv_lmul hx hb hd (k _ _ (.inr (.long (x * y)) :: st') _ h H locs ls ⟨S.1, S.2.1, S.2.2.1, S.2.2.2.1, S.2.2.2.2.1.tl.tl.cons (show mw_vok (.inr _) from trivial), S.2.2.2.2.2⟩)
theorem mxs_ladd {X : mw_X} (hX : mw_Cx X) {pc : Nat} (hd : decode (mw_ro X) pc = .ok (.ladd, 1)) : mw_Snd X pc (mx_ladd (pc + 1)) := by
  obtain ⟨p, l, e, R, s, m, args, below, meth, c, ad, D, cA, A, maxL, nc, ns, Qm, cc, own⟩ := X
  obtain ⟨hx, hb, hml, hown, hts, hK, hN, hD, hA⟩ := hX
  have hd : decode cc pc = .ok (.ladd, 1) := hd
  intro K L st M h k H locs ls S
  match st, h, S with
  | .inr (.long y) :: .inr (.long x) :: st', h, S =>
    exact lv_ladd hx hb hd (k _ _ (.inr (.long (x + y)) :: st') _ h H locs ls ⟨S.1, S.2.1, S.2.2.1, S.2.2.2.1, S.2.2.2.2.1.tl.tl.cons (show mw_vok (.inr _) from trivial), S.2.2.2.2.2⟩)
theorem mxs_lcmp {X : mw_X} (hX : mw_Cx X) {pc : Nat} (hd : decode (mw_ro X) pc = .ok (.lcmp, 1)) : mw_Snd X pc (mx_lcmp (pc + 1)) := by
  obtain ⟨p, l, e, R, s, m, args, below, meth, c, ad, D, cA, A, maxL, nc, ns, Qm, cc, own⟩ := X
  obtain ⟨hx, hb, hml, hown, hts, hK, hN, hD, hA⟩ := hX
  have hd : decode cc pc = .ok (.lcmp, 1) := hd
  intro K L st M h k H locs ls S
  match st, h, S with
  | .inr (.long y) :: .inr (.long x) :: st', h, S =>
    obtain ⟨h0, h⟩ := h
    subst h0
    refine W.lcmp hx hb hd ?_
    have e1 : lg_cmp x x = Int32.ofInt 0 := by simp [lg_cmp]
    rw [e1]
    exact k _ _ (.inl (.inl 0) :: st') _ h H locs ls ⟨S.1, S.2.1, S.2.2.1, S.2.2.2.1, S.2.2.2.2.1.tl.tl.cons (show mw_vok (.inl (.inl 0)) from mv_r0), S.2.2.2.2.2⟩
theorem mxs_goto {X : mw_X} (hX : mw_Cx X) {pc : Nat} {off : Int} {tg : Nat} (hd : decode (mw_ro X) pc = .ok (.goto off, 3)) (ht : (pc : Int) + off = (tg : Int)) : mw_Snd X pc (mx_goto tg) := by
  obtain ⟨p, l, e, R, s, m, args, below, meth, c, ad, D, cA, A, maxL, nc, ns, Qm, cc, own⟩ := X
  obtain ⟨hx, hb, hml, hown, hts, hK, hN, hD, hA⟩ := hX
  have hd : decode cc pc = .ok (.goto off, 3) := hd
  intro K L st M h k H locs ls S
  exact lv_goto hx hb hd ht (k _ _ _ _ h H locs ls S)
theorem mxs_ifeq {X : mw_X} (hX : mw_Cx X) {pc : Nat} {off : Int} {tg : Nat} (hd : decode (mw_ro X) pc = .ok (.ifCond .eq off, 3)) (ht : (pc : Int) + off = (tg : Int)) : mw_Snd X pc (mx_ifeq tg (pc + 3)) := by
  obtain ⟨p, l, e, R, s, m, args, below, meth, c, ad, D, cA, A, maxL, nc, ns, Qm, cc, own⟩ := X
  obtain ⟨hx, hb, hml, hown, hts, hK, hN, hD, hA⟩ := hX
  have hd : decode cc pc = .ok (.ifCond .eq off, 3) := hd
  intro K L st M h k H locs ls S
  match st, h, S with
  | .inl (.inl x) :: st', h, S =>
    have hx1 : -2147483648 ≤ x ∧ x ≤ 2147483647 := S.2.2.2.2.1.hd
    have S' : mw_St s ad D cA A maxL M L st' H locs ls := ⟨S.1, S.2.1, S.2.2.1, S.2.2.2.1, S.2.2.2.2.1.tl, S.2.2.2.2.2⟩
    exact lv_if_eq hx hb hd ht (fun q => k _ _ _ _ (h.1 ((mv_ieq hx1 mv_r0).mp q)) H locs ls S') (fun q => k _ _ _ _ (h.2 (fun z => q ((mv_ieq hx1 mv_r0).mpr z))) H locs ls S')
theorem mxs_ifne {X : mw_X} (hX : mw_Cx X) {pc : Nat} {off : Int} {tg : Nat} (hd : decode (mw_ro X) pc = .ok (.ifCond .ne off, 3)) (ht : (pc : Int) + off = (tg : Int)) : mw_Snd X pc (mx_ifne tg (pc + 3)) := by
  obtain ⟨p, l, e, R, s, m, args, below, meth, c, ad, D, cA, A, maxL, nc, ns, Qm, cc, own⟩ := X
  obtain ⟨hx, hb, hml, hown, hts, hK, hN, hD, hA⟩ := hX
  have hd : decode cc pc = .ok (.ifCond .ne off, 3) := hd
  intro K L st M h k H locs ls S
  match st, h, S with
  | .inl (.inl x) :: st', h, S =>
    have hx1 : -2147483648 ≤ x ∧ x ≤ 2147483647 := S.2.2.2.2.1.hd
    have S' : mw_St s ad D cA A maxL M L st' H locs ls := ⟨S.1, S.2.1, S.2.2.1, S.2.2.2.1, S.2.2.2.2.1.tl, S.2.2.2.2.2⟩
    exact lv_if_ne hx hb hd ht (fun q => k _ _ _ _ (h.1 (fun z => q ((mv_ieq hx1 mv_r0).mpr z))) H locs ls S') (fun q => k _ _ _ _ (h.2 ((mv_ieq hx1 mv_r0).mp q)) H locs ls S')
theorem mxs_iflt {X : mw_X} (hX : mw_Cx X) {pc : Nat} {off : Int} {tg : Nat} (hd : decode (mw_ro X) pc = .ok (.ifCond .lt off, 3)) (ht : (pc : Int) + off = (tg : Int)) : mw_Snd X pc (mx_iflt tg (pc + 3)) := by
  obtain ⟨p, l, e, R, s, m, args, below, meth, c, ad, D, cA, A, maxL, nc, ns, Qm, cc, own⟩ := X
  obtain ⟨hx, hb, hml, hown, hts, hK, hN, hD, hA⟩ := hX
  have hd : decode cc pc = .ok (.ifCond .lt off, 3) := hd
  intro K L st M h k H locs ls S
  match st, h, S with
  | .inl (.inl x) :: st', h, S =>
    have hx1 : -2147483648 ≤ x ∧ x ≤ 2147483647 := S.2.2.2.2.1.hd
    have S' : mw_St s ad D cA A maxL M L st' H locs ls := ⟨S.1, S.2.1, S.2.2.1, S.2.2.2.1, S.2.2.2.2.1.tl, S.2.2.2.2.2⟩
    exact lv_if_lt hx hb hd ht (fun q => k _ _ _ _ (h.1 ((mv_ilt hx1 mv_r0).mp q)) H locs ls S') (fun q => k _ _ _ _ (h.2 (Int.not_lt.mp fun z => q ((mv_ilt hx1 mv_r0).mpr z))) H locs ls S')
theorem mxs_ifge {X : mw_X} (hX : mw_Cx X) {pc : Nat} {off : Int} {tg : Nat} (hd : decode (mw_ro X) pc = .ok (.ifCond .ge off, 3)) (ht : (pc : Int) + off = (tg : Int)) : mw_Snd X pc (mx_ifge tg (pc + 3)) := by
  obtain ⟨p, l, e, R, s, m, args, below, meth, c, ad, D, cA, A, maxL, nc, ns, Qm, cc, own⟩ := X
  obtain ⟨hx, hb, hml, hown, hts, hK, hN, hD, hA⟩ := hX
  have hd : decode cc pc = .ok (.ifCond .ge off, 3) := hd
  intro K L st M h k H locs ls S
  match st, h, S with
  | .inl (.inl x) :: st', h, S =>
    have hx1 : -2147483648 ≤ x ∧ x ≤ 2147483647 := S.2.2.2.2.1.hd
    have S' : mw_St s ad D cA A maxL M L st' H locs ls := ⟨S.1, S.2.1, S.2.2.1, S.2.2.2.1, S.2.2.2.2.1.tl, S.2.2.2.2.2⟩
    exact lv_if_ge hx hb hd ht (fun q => k _ _ _ _ (h.1 ((mv_ile mv_r0 hx1).mp q)) H locs ls S') (fun q => k _ _ _ _ (h.2 (Int.not_le.mp fun z => q ((mv_ile mv_r0 hx1).mpr z))) H locs ls S')
theorem mxs_ifle {X : mw_X} (hX : mw_Cx X) {pc : Nat} {off : Int} {tg : Nat} (hd : decode (mw_ro X) pc = .ok (.ifCond .le off, 3)) (ht : (pc : Int) + off = (tg : Int)) : mw_Snd X pc (mx_ifle tg (pc + 3)) := by
  obtain ⟨p, l, e, R, s, m, args, below, meth, c, ad, D, cA, A, maxL, nc, ns, Qm, cc, own⟩ := X
  obtain ⟨hx, hb, hml, hown, hts, hK, hN, hD, hA⟩ := hX
  have hd : decode cc pc = .ok (.ifCond .le off, 3) := hd
  intro K L st M h k H locs ls S
  match st, h, S with
  | .inl (.inl x) :: st', h, S =>
    have hx1 : -2147483648 ≤ x ∧ x ≤ 2147483647 := S.2.2.2.2.1.hd
    have S' : mw_St s ad D cA A maxL M L st' H locs ls := ⟨S.1, S.2.1, S.2.2.1, S.2.2.2.1, S.2.2.2.2.1.tl, S.2.2.2.2.2⟩
    exact lv_if_le hx hb hd ht (fun q => k _ _ _ _ (h.1 ((mv_ile hx1 mv_r0).mp q)) H locs ls S') (fun q => k _ _ _ _ (h.2 (Int.not_le.mp fun z => q ((mv_ile hx1 mv_r0).mpr z))) H locs ls S')
theorem mxs_ceq {X : mw_X} (hX : mw_Cx X) {pc : Nat} {off : Int} {tg : Nat} (hd : decode (mw_ro X) pc = .ok (.if_icmp .eq off, 3)) (ht : (pc : Int) + off = (tg : Int)) : mw_Snd X pc (mx_ceq tg (pc + 3)) := by
  obtain ⟨p, l, e, R, s, m, args, below, meth, c, ad, D, cA, A, maxL, nc, ns, Qm, cc, own⟩ := X
  obtain ⟨hx, hb, hml, hown, hts, hK, hN, hD, hA⟩ := hX
  have hd : decode cc pc = .ok (.if_icmp .eq off, 3) := hd
  intro K L st M h k H locs ls S
  match st, h, S with
  | .inl (.inl y) :: .inl (.inl x) :: st', h, S =>
    have hy1 : -2147483648 ≤ y ∧ y ≤ 2147483647 := S.2.2.2.2.1.hd
    have hx1 : -2147483648 ≤ x ∧ x ≤ 2147483647 := S.2.2.2.2.1.tl.hd
    have S' : mw_St s ad D cA A maxL M L st' H locs ls := ⟨S.1, S.2.1, S.2.2.1, S.2.2.2.1, S.2.2.2.2.1.tl.tl, S.2.2.2.2.2⟩
    exact lv_icmp_eq hx hb hd ht (fun q => k _ _ _ _ (h.1 ((mv_ieq hx1 hy1).mp q)) H locs ls S') (fun q => k _ _ _ _ (h.2 (fun z => q ((mv_ieq hx1 hy1).mpr z))) H locs ls S')
theorem mxs_cne {X : mw_X} (hX : mw_Cx X) {pc : Nat} {off : Int} {tg : Nat} (hd : decode (mw_ro X) pc = .ok (.if_icmp .ne off, 3)) (ht : (pc : Int) + off = (tg : Int)) : mw_Snd X pc (mx_cne tg (pc + 3)) := by
  obtain ⟨p, l, e, R, s, m, args, below, meth, c, ad, D, cA, A, maxL, nc, ns, Qm, cc, own⟩ := X
  obtain ⟨hx, hb, hml, hown, hts, hK, hN, hD, hA⟩ := hX
  have hd : decode cc pc = .ok (.if_icmp .ne off, 3) := hd
  intro K L st M h k H locs ls S
  match st, h, S with
  | .inl (.inl y) :: .inl (.inl x) :: st', h, S =>
    have hy1 : -2147483648 ≤ y ∧ y ≤ 2147483647 := S.2.2.2.2.1.hd
    have hx1 : -2147483648 ≤ x ∧ x ≤ 2147483647 := S.2.2.2.2.1.tl.hd
    have S' : mw_St s ad D cA A maxL M L st' H locs ls := ⟨S.1, S.2.1, S.2.2.1, S.2.2.2.1, S.2.2.2.2.1.tl.tl, S.2.2.2.2.2⟩
    exact lv_icmp_ne hx hb hd ht (fun q => k _ _ _ _ (h.1 (fun z => q ((mv_ieq hx1 hy1).mpr z))) H locs ls S') (fun q => k _ _ _ _ (h.2 ((mv_ieq hx1 hy1).mp q)) H locs ls S')
theorem mxs_clt {X : mw_X} (hX : mw_Cx X) {pc : Nat} {off : Int} {tg : Nat} (hd : decode (mw_ro X) pc = .ok (.if_icmp .lt off, 3)) (ht : (pc : Int) + off = (tg : Int)) : mw_Snd X pc (mx_clt tg (pc + 3)) := by
  obtain ⟨p, l, e, R, s, m, args, below, meth, c, ad, D, cA, A, maxL, nc, ns, Qm, cc, own⟩ := X
  obtain ⟨hx, hb, hml, hown, hts, hK, hN, hD, hA⟩ := hX
  have hd : decode cc pc = .ok (.if_icmp .lt off, 3) := hd
  intro K L st M h k H locs ls S
  match st, h, S with
  | .inl (.inl y) :: .inl (.inl x) :: st', h, S =>
    have hy1 : -2147483648 ≤ y ∧ y ≤ 2147483647 := S.2.2.2.2.1.hd
    have hx1 : -2147483648 ≤ x ∧ x ≤ 2147483647 := S.2.2.2.2.1.tl.hd
    have S' : mw_St s ad D cA A maxL M L st' H locs ls := ⟨S.1, S.2.1, S.2.2.1, S.2.2.2.1, S.2.2.2.2.1.tl.tl, S.2.2.2.2.2⟩
    exact lv_icmp_lt hx hb hd ht (fun q => k _ _ _ _ (h.1 ((mv_ilt hx1 hy1).mp q)) H locs ls S') (fun q => k _ _ _ _ (h.2 (Int.not_lt.mp fun z => q ((mv_ilt hx1 hy1).mpr z))) H locs ls S')
theorem mxs_cge {X : mw_X} (hX : mw_Cx X) {pc : Nat} {off : Int} {tg : Nat} (hd : decode (mw_ro X) pc = .ok (.if_icmp .ge off, 3)) (ht : (pc : Int) + off = (tg : Int)) : mw_Snd X pc (mx_cge tg (pc + 3)) := by
  obtain ⟨p, l, e, R, s, m, args, below, meth, c, ad, D, cA, A, maxL, nc, ns, Qm, cc, own⟩ := X
  obtain ⟨hx, hb, hml, hown, hts, hK, hN, hD, hA⟩ := hX
  have hd : decode cc pc = .ok (.if_icmp .ge off, 3) := hd
  intro K L st M h k H locs ls S
  match st, h, S with
  | .inl (.inl y) :: .inl (.inl x) :: st', h, S =>
    have hy1 : -2147483648 ≤ y ∧ y ≤ 2147483647 := S.2.2.2.2.1.hd
    have hx1 : -2147483648 ≤ x ∧ x ≤ 2147483647 := S.2.2.2.2.1.tl.hd
    have S' : mw_St s ad D cA A maxL M L st' H locs ls := ⟨S.1, S.2.1, S.2.2.1, S.2.2.2.1, S.2.2.2.2.1.tl.tl, S.2.2.2.2.2⟩
    exact lv_icmp_ge hx hb hd ht (fun q => k _ _ _ _ (h.1 ((mv_ile hy1 hx1).mp q)) H locs ls S') (fun q => k _ _ _ _ (h.2 (Int.not_le.mp fun z => q ((mv_ile hy1 hx1).mpr z))) H locs ls S')
theorem mxs_cle {X : mw_X} (hX : mw_Cx X) {pc : Nat} {off : Int} {tg : Nat} (hd : decode (mw_ro X) pc = .ok (.if_icmp .le off, 3)) (ht : (pc : Int) + off = (tg : Int)) : mw_Snd X pc (mx_cle tg (pc + 3)) := by
  obtain ⟨p, l, e, R, s, m, args, below, meth, c, ad, D, cA, A, maxL, nc, ns, Qm, cc, own⟩ := X
  obtain ⟨hx, hb, hml, hown, hts, hK, hN, hD, hA⟩ := hX
  have hd : decode cc pc = .ok (.if_icmp .le off, 3) := hd
  intro K L st M h k H locs ls S
  match st, h, S with
  | .inl (.inl y) :: .inl (.inl x) :: st', h, S =>
    have hy1 : -2147483648 ≤ y ∧ y ≤ 2147483647 := S.2.2.2.2.1.hd
    have hx1 : -2147483648 ≤ x ∧ x ≤ 2147483647 := S.2.2.2.2.1.tl.hd
    have S' : mw_St s ad D cA A maxL M L st' H locs ls := ⟨S.1, S.2.1, S.2.2.1, S.2.2.2.1, S.2.2.2.2.1.tl.tl, S.2.2.2.2.2⟩
    exact lv_icmp_le hx hb hd ht (fun q => k _ _ _ _ (h.1 ((mv_ile hx1 hy1).mp q)) H locs ls S') (fun q => k _ _ _ _ (h.2 (Int.not_le.mp fun z => q ((mv_ile hx1 hy1).mpr z))) H locs ls S')
