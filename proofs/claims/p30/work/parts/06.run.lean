/-! Walking a method: from the list of its operators to its contract. -/
def mv_look : List (Nat × mv_O) → Nat → mv_O
  | [], _ => mo_no
  | (q, o) :: r, pc => bif Nat.beq q pc then o else mv_look r pc
def mv_in : List Nat → Nat → Bool
  | [], _ => false
  | a :: l, x => bif Nat.beq a x then true else mv_in l x
def mv_run (tab : List (Nat × mv_O)) (cut : List Nat) (K : mv_K) (Q : mv_R) : Nat → mv_K
  | 0, pc, L, st, M => K pc L st M
  | n + 1, pc, L, st, M => mv_look tab pc (fun pc' L' st' M' => bif mv_in cut pc' then K pc' L' st' M' else mv_run tab cut K Q n pc' L' st' M') Q L st M
def mv_J (cc : ByteArray) (maxL : Nat) (ret : Option FieldType) (own : String) (lvl : Nat) (Q : mv_R) : mv_K := fun pc L st M =>
  ∀ (p : Program) (l : Launch) (e : Env) (s : State) (m : MethodId) (args : Array Value) (below : List Frame) (meth : Method) (c : Code) (ad : Nat → Nat → Nat) (D : va_G) (cA : Nat → ClassId) (H : Heap) (locs : List Loc) (ls : Array Slot),
    mv_Cx cc maxL ret own p s m args meth c → va_K D vwCl (mv_tys cA) s → mv_N s → mv_St ad D cA maxL s.heap M L st H locs ls →
    W p l e (mv_rm lvl) s m args below meth c H locs 0 0 (MQ below (mv_Qc ad D cA Q) args s 0 0 (mv_A ad)) (F0 m pc ls (st.map (mv_tr ad)))
section MVR
variable {cc : ByteArray} {maxL : Nat} {ret : Option FieldType} {own : String} {lvl : Nat}
theorem mv_look_snd : ∀ {tab : List (Nat × mv_O)}, (∀ x ∈ tab, mv_Snd cc maxL ret own lvl x.1 x.2) → ∀ pc, mv_Snd cc maxL ret own lvl pc (mv_look tab pc)
  | [], _, _ => ms_no
  | (q, o) :: r, h, pc => by
    unfold mv_look
    cases hb : Nat.beq q pc with
    | true =>
      have := Nat.eq_of_beq_eq_true hb
      subst this
      exact h (q, o) List.mem_cons_self
    | false => exact mv_look_snd (fun x hx => h x (List.mem_cons_of_mem _ hx)) pc
theorem mv_run_J {tab : List (Nat × mv_O)} {cut : List Nat} {Q : mv_R} (ht : ∀ x ∈ tab, mv_Snd cc maxL ret own lvl x.1 x.2) :
    ∀ (n pc : Nat) (L : mv_L) (st : List mv_V) (M : mv_M), mv_run tab cut (mv_J cc maxL ret own lvl Q) Q n pc L st M → mv_J cc maxL ret own lvl Q pc L st M
  | 0, _, _, _, _, h => h
  | n + 1, pc, L, st, M, h => by
    intro p l e s m args below meth c ad D cA H locs ls X hK hN S
    refine mv_look_snd ht pc p l e s m args below meth c ad D cA _ Q L st M H locs ls X hK hN h S (fun pc' L' st' M' H' locs' ls' h' S' => ?_)
    cases hc : mv_in cut pc' with
    | true =>
      rw [hc] at h'
      exact h' p l e s m args below meth c ad D cA H' locs' ls' X hK hN S'
    | false =>
      rw [hc] at h'
      exact mv_run_J ht n pc' L' st' M' h' p l e s m args below meth c ad D cA H' locs' ls' X hK hN S'
def mv_pad : Nat → (mv_L → Prop) → Prop
  | 0, k => k []
  | n + 1, k => mv_pad n (fun L => k (none :: L))
def mv_ent : List mv_V → Nat → (mv_L → Prop) → Prop
  | [], n, k => mv_pad n k
  | v :: av, n + 1, k => mv_ent av n (fun L => k (some v :: L))
  | _ :: _, 0, _ => False
theorem mv_pad_at : ∀ {n : Nat} {k : mv_L → Prop}, mv_pad n k → k (List.replicate n none)
  | 0, _, h => h
  | n + 1, k, h => by
    have := mv_pad_at (n := n) h
    exact this
theorem mv_ent_at : ∀ {av : List mv_V} {n : Nat} {k : mv_L → Prop}, mv_ent av n k → av.length ≤ n ∧ k (av.map some ++ List.replicate (n - av.length) none)
  | [], n, k, h => ⟨Nat.zero_le _, mv_pad_at h⟩
  | v :: av, 0, _, h => h.elim
  | v :: av, n + 1, k, h => by
    obtain ⟨h1, h2⟩ := mv_ent_at (av := av) (n := n) h
    refine ⟨by simp; exact h1, ?_⟩
    simp only [List.map_cons, List.length_cons, Nat.reduceSubDiff, List.cons_append]
    exact h2
theorem mv_lgsl (ad : Nat → Nat → Nat) : ∀ av : List mv_V, lg_sl (av.map (mv_tr ad)) = av.map (fun v => .val (mv_tr ad v))
  | [] => rfl
  | v :: av => by
    have hc : ¬ (mv_tr ad v).category = 2 := by rw [mv_tr_cat]; decide
    show (if (mv_tr ad v).category = 2 then _ else _) ++ lg_sl (av.map (mv_tr ad)) = _
    rw [if_neg hc, mv_lgsl ad av]
    rfl
theorem mv_lvargs (ad : Nat → Nat → Nat) : ∀ (av : List mv_V) (i j : Nat) (v : mv_V), av[j]? = some v → (i + j, mv_tr ad v) ∈ lv_args i (av.map (mv_tr ad))
  | [], _, _, _, h => by simp at h
  | w :: av, i, 0, v, h => by
    simp at h
    subst h
    exact List.mem_cons_self
  | w :: av, i, j + 1, v, h => by
    rw [List.getElem?_cons_succ] at h
    have hc : ¬ (mv_tr ad w).category = 2 := by rw [mv_tr_cat]; decide
    show _ ∈ (i, mv_tr ad w) :: lv_args (if (mv_tr ad w).category = 2 then i + 2 else i + 1) (av.map (mv_tr ad))
    rw [if_neg hc]
    refine List.mem_cons_of_mem _ ?_
    have := mv_lvargs ad av (i + 1) j v h
    rwa [show i + 1 + j = i + (j + 1) by omega] at this
theorem mv_ev {y : MethodName} (hy : plainName y.cls = true) {av : List mv_V} {M : mv_M} {Q : mv_R} (h : mv_ent av maxL (fun L => mv_J cc maxL ret y.cls lvl Q 0 L [] M)) : mv_Ev lvl y cc maxL ret av M Q := by
  obtain ⟨hle, h⟩ := mv_ent_at h
  intro l ad D cA hso hM
  refine Met.ofW (cc := cc) (maxL := maxL) (ret := ret) hy rfl ?_
  intro p e s m args below meth c s₁ B hml hv
  obtain ⟨rfl, hP, hD, hK, hN⟩ := hv
  have hts := atoms_spec (ws := Cond.code y cc maxL ret :: mv_tb) B.pre
  have hlen : (lg_sl (av.map (mv_tr ad))).length = av.length := by rw [mv_lgsl]; simp
  have hl := lv_entry (av.map (mv_tr ad)) (n := maxL) (by rw [hlen]; exact hle)
  rw [lg_entry_eq]
  refine h p l e s m _ below meth c ad D cA s.heap [] _ ⟨B.exec, B.bytes, hml, findClass_of_methodNamed B.named, fun w hw => hts w (List.mem_cons_of_mem _ hw), B.returns, B.notSynchronized⟩ hK hN ⟨hP, hD, va_S.rf, ⟨⟨hl.1, hl.2.1, fun q hq => ?_⟩, by simp; omega⟩, ?_, (fun _ z => by cases z), hM⟩
  · obtain ⟨i, x⟩ := q
    obtain ⟨v, hv, rfl⟩ := mv_pr_mem.mp hq
    refine hl.2.2 _ ?_
    by_cases hi : i < av.length
    · rw [List.getElem?_append_left (by simp; exact hi), List.getElem?_map] at hv
      cases ha : av[i]? with
      | none => rw [ha] at hv; cases hv
      | some w =>
        rw [ha] at hv
        simp at hv
        subst hv
        have := mv_lvargs ad av 0 i w ha
        rwa [Nat.zero_add] at this
    · rw [List.getElem?_append_right (by simp; omega), List.getElem?_replicate] at hv
      split at hv <;> simp at hv
  · intro i v hv
    by_cases hi : i < av.length
    · rw [List.getElem?_append_left (by simp; exact hi), List.getElem?_map] at hv
      cases ha : av[i]? with
      | none => rw [ha] at hv; cases hv
      | some w =>
        rw [ha] at hv
        simp at hv
        subst hv
        exact hso w (List.mem_of_getElem? ha)
    · rw [List.getElem?_append_right (by simp; omega), List.getElem?_replicate] at hv
      split at hv <;> simp at hv
end MVR
/-- a contract may be read with a weaker end -/
theorem mv_Ev.mono {lvl : Nat} {y : MethodName} {cc : ByteArray} {maxL : Nat} {ret : Option FieldType} {av : List mv_V} {M : mv_M} {Q Q' : mv_R} (h : mv_Ev lvl y cc maxL ret av M Q) (hq : ∀ v M', Q v M' → Q' v M') : mv_Ev lvl y cc maxL ret av M Q' := by
  intro l ad D cA hs hM p e h1 h2 h3 s m args below h4 h5 h6 h7
  obtain ⟨n, o, g1, g2, g3, ⟨⟨v, M', e1, e2, e3⟩, e4⟩, g5⟩ := h l ad D cA hs hM p e h1 h2 h3 s m args below h4 h5 h6 h7
  exact ⟨n, o, g1, g2, g3, ⟨⟨v, M', e1, hq _ _ e2, e3⟩, e4⟩, g5⟩
theorem mv_fc {α : Type} {P : α → Prop} {x : α} {l : List α} (h : P x) (t : ∀ y ∈ l, P y) : ∀ y ∈ x :: l, P y := List.forall_mem_cons.mpr ⟨h, t⟩
theorem mv_fn {α : Type} {P : α → Prop} : ∀ y ∈ ([] : List α), P y := fun _ h => by cases h
theorem mv_w {w : Cond} (i : Nat) (h : lw_tbl[i]? = some w) (hg : goodWord w = true) : w ∈ mv_tb := List.mem_filter.mpr ⟨List.mem_of_getElem? h, hg⟩
