/-! Bits, shifts and products that wrap. -/
theorem mv_toIntR (x : Int32) : -2147483648 ≤ x.toInt ∧ x.toInt ≤ 2147483647 := by
  have h1 := Int32.le_toInt x
  have h2 := Int32.toInt_lt x
  omega
def mv_and (x y : Int) : Int := (Int32.ofInt x &&& Int32.ofInt y).toInt
def mv_shr (x y : Int) : Int := (Int32.ofInt x >>> (Int32.ofInt y &&& 31)).toInt
def mv_mulw (x y : Int) : Int := (Int32.ofInt x * Int32.ofInt y).toInt
theorem mv_and_r (x y : Int) : -2147483648 ≤ mv_and x y ∧ mv_and x y ≤ 2147483647 := mv_toIntR _
theorem mv_shr_r (x y : Int) : -2147483648 ≤ mv_shr x y ∧ mv_shr x y ≤ 2147483647 := mv_toIntR _
theorem mv_mulw_r (x y : Int) : -2147483648 ≤ mv_mulw x y ∧ mv_mulw x y ≤ 2147483647 := mv_toIntR _
def mo_iand (nx : Nat) : mv_O := fun K _ L st M => match st with
  | .inl y :: .inl x :: st' => K nx L (.inl (mv_and x y) :: st') M
  | _ => False
def mo_ishr (nx : Nat) : mv_O := fun K _ L st M => match st with
  | .inl y :: .inl x :: st' => K nx L (.inl (mv_shr x y) :: st') M
  | _ => False
def mo_imulw (nx : Nat) : mv_O := fun K _ L st M => match st with
  | .inl y :: .inl x :: st' => K nx L (.inl (mv_mulw x y) :: st') M
  | _ => False
section MVB
variable {cc : ByteArray} {maxL : Nat} {ret : Option FieldType} {own : String} {lvl pc : Nat}
theorem ms_iand (hd : decode cc pc = .ok (.iand, 1)) : mv_Snd cc maxL ret own lvl pc (mo_iand (pc + 1)) := by
  intro p l e s m args below meth c ad D cA K Q L st M H locs ls C hK hN h S k
  match st, h, S with
  | .inl y :: .inl x :: st', h, S =>
    refine lv_iand C.1 C.2.1 hd ?_
    have e : Int32.ofInt x &&& Int32.ofInt y = Int32.ofInt (mv_and x y) := (Int32.ofInt_toInt _).symm
    rw [e]
    exact k _ _ _ _ _ _ _ h ⟨S.1, S.2.1, S.2.2.1, S.2.2.2.1, S.2.2.2.2.1, S.2.2.2.2.2.1.tl.tl.cons (mv_and_r x y), S.2.2.2.2.2.2⟩
theorem ms_ishr (hd : decode cc pc = .ok (.ishr, 1)) : mv_Snd cc maxL ret own lvl pc (mo_ishr (pc + 1)) := by
  intro p l e s m args below meth c ad D cA K Q L st M H locs ls C hK hN h S k
  match st, h, S with
  | .inl y :: .inl x :: st', h, S =>
    refine lv_ishr C.1 C.2.1 hd ?_
    have e : Int32.ofInt x >>> (Int32.ofInt y &&& 31) = Int32.ofInt (mv_shr x y) := (Int32.ofInt_toInt _).symm
    rw [e]
    exact k _ _ _ _ _ _ _ h ⟨S.1, S.2.1, S.2.2.1, S.2.2.2.1, S.2.2.2.2.1, S.2.2.2.2.2.1.tl.tl.cons (mv_shr_r x y), S.2.2.2.2.2.2⟩
theorem ms_imulw (hd : decode cc pc = .ok (.imul, 1)) : mv_Snd cc maxL ret own lvl pc (mo_imulw (pc + 1)) := by
  intro p l e s m args below meth c ad D cA K Q L st M H locs ls C hK hN h S k
  match st, h, S with
  | .inl y :: .inl x :: st', h, S =>
    refine lv_imul C.1 C.2.1 hd ?_
    have e : Int32.ofInt x * Int32.ofInt y = Int32.ofInt (mv_mulw x y) := (Int32.ofInt_toInt _).symm
    rw [e]
    exact k _ _ _ _ _ _ _ h ⟨S.1, S.2.1, S.2.2.1, S.2.2.2.1, S.2.2.2.2.1, S.2.2.2.2.2.1.tl.tl.cons (mv_mulw_r x y), S.2.2.2.2.2.2⟩
end MVB
