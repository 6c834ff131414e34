/-! Math.max, min, abs: by the library's contracts. -/
def mo_max (nx : Nat) : mv_O := fun K _ L st M => match st with
  | .inl y :: .inl x :: st' => cond (Nat.ble st'.length 8) (K nx L (.inl (max x y) :: st') M) False
  | _ => False
def mo_min (nx : Nat) : mv_O := fun K _ L st M => match st with
  | .inl y :: .inl x :: st' => cond (Nat.ble st'.length 8) (K nx L (.inl (min x y) :: st') M) False
  | _ => False
def mo_abs (nx : Nat) : mv_O := fun K _ L st M => match st with
  | .inl x :: st' => cond (Nat.ble st'.length 8) ((-2147483647 ≤ x) ∧ K nx L (.inl (if 0 ≤ x then x else -x) :: st') M) False
  | _ => False
theorem wm_max : Cond.code Lib.Math.max.name Lib.Math.max.code 2 (some .int) ∈ mv_tb := mv_w 473 (by decide +kernel) (by decide +kernel)
theorem wm_min : Cond.code Lib.Math.min.name Lib.Math.min.code 2 (some .int) ∈ mv_tb := mv_w 434 (by decide +kernel) (by decide +kernel)
theorem wm_abs : Cond.code Lib.Math.abs.name Lib.Math.abs.code 1 (some .int) ∈ mv_tb := mv_w 521 (by decide +kernel) (by decide +kernel)
section MVM
variable {cc : ByteArray} {maxL : Nat} {ret : Option FieldType} {own : String} {lvl pc : Nat}
theorem ms_max {idx : Nat} (hd : decode cc pc = .ok (.invokestatic idx, 3)) (hl : Cond.methodLink own idx Lib.Math.max.name ∈ mv_tb) : mv_Snd cc maxL ret own lvl pc (mo_max (pc + 3)) := by
  intro p l e s m args below meth c ad D cA K Q L st M H locs ls X hK hN h S kk
  match st, h, S with
  | .inl y :: .inl x :: st', hh, SS =>
    dsimp only [mo_max] at hh
    have h1 := mv_cond hh
    have hlen := Nat.le_of_ble_eq_true h1.1
    have hy := SS.2.2.2.2.2.1.hd
    have hx := SS.2.2.2.2.2.1.tl.hd
    refine va_mmax X.1 X.2.1 (by rw [X.2.2.1]; exact SS.2.2.2.1.1.1.symm) X.2.2.2.1 (X.2.2.2.2.1 _ hl) (X.2.2.2.2.1 _ wd_43) (X.2.2.2.2.1 _ wd_438) (X.2.2.2.2.1 _ wm_max) (by show 1 ≤ lvl + 1; omega) (by rw [mv_catsum]; show st'.length + 13 ≤ 40 + 30 * lvl; omega) (Nat.zero_le _) (Nat.zero_le _) hd ?_
    have e : (if Int32.ofInt x < Int32.ofInt y then Int32.ofInt y else Int32.ofInt x) = Int32.ofInt (max x y) := by
      by_cases q : Int32.ofInt x < Int32.ofInt y
      · rw [if_pos q]
        have := (mv_ilt hx hy).mp q
        rw [show max x y = y by omega]
      · rw [if_neg q]
        have h9 : ¬ x < y := fun z => q ((mv_ilt hx hy).mpr z)
        rw [show max x y = x by omega]
    rw [e]
    have hmm : max x y = x ∨ max x y = y := by omega
    exact kk _ _ (.inl (max x y) :: st') _ _ _ _ h1.2 ⟨SS.1, SS.2.1, SS.2.2.1, SS.2.2.2.1, SS.2.2.2.2.1, SS.2.2.2.2.2.1.tl.tl.cons (by rcases hmm with q | q <;> rw [q] <;> assumption), SS.2.2.2.2.2.2⟩
theorem ms_min {idx : Nat} (hd : decode cc pc = .ok (.invokestatic idx, 3)) (hl : Cond.methodLink own idx Lib.Math.min.name ∈ mv_tb) : mv_Snd cc maxL ret own lvl pc (mo_min (pc + 3)) := by
  intro p l e s m args below meth c ad D cA K Q L st M H locs ls X hK hN h S kk
  match st, h, S with
  | .inl y :: .inl x :: st', hh, SS =>
    dsimp only [mo_min] at hh
    have h1 := mv_cond hh
    have hlen := Nat.le_of_ble_eq_true h1.1
    have hy := SS.2.2.2.2.2.1.hd
    have hx := SS.2.2.2.2.2.1.tl.hd
    refine va_mmin X.1 X.2.1 (by rw [X.2.2.1]; exact SS.2.2.2.1.1.1.symm) X.2.2.2.1 (X.2.2.2.2.1 _ hl) (X.2.2.2.2.1 _ wd_59) (X.2.2.2.2.1 _ wd_438) (X.2.2.2.2.1 _ wm_min) (by show 1 ≤ lvl + 1; omega) (by rw [mv_catsum]; show st'.length + 13 ≤ 40 + 30 * lvl; omega) (Nat.zero_le _) (Nat.zero_le _) hd ?_
    have e : (if Int32.ofInt y < Int32.ofInt x then Int32.ofInt y else Int32.ofInt x) = Int32.ofInt (min x y) := by
      by_cases q : Int32.ofInt y < Int32.ofInt x
      · rw [if_pos q]
        have := (mv_ilt hy hx).mp q
        rw [show min x y = y by omega]
      · rw [if_neg q]
        have h9 : ¬ y < x := fun z => q ((mv_ilt hy hx).mpr z)
        rw [show min x y = x by omega]
    rw [e]
    have hmm : min x y = x ∨ min x y = y := by omega
    exact kk _ _ (.inl (min x y) :: st') _ _ _ _ h1.2 ⟨SS.1, SS.2.1, SS.2.2.1, SS.2.2.2.1, SS.2.2.2.2.1, SS.2.2.2.2.2.1.tl.tl.cons (by rcases hmm with q | q <;> rw [q] <;> assumption), SS.2.2.2.2.2.2⟩
theorem ms_abs {idx : Nat} (hd : decode cc pc = .ok (.invokestatic idx, 3)) (hl : Cond.methodLink own idx Lib.Math.abs.name ∈ mv_tb) : mv_Snd cc maxL ret own lvl pc (mo_abs (pc + 3)) := by
  intro p l e s m args below meth c ad D cA K Q L st M H locs ls X hK hN h S kk
  match st, h, S with
  | .inl x :: st', hh, SS =>
    dsimp only [mo_abs] at hh
    have h1 := mv_cond hh
    have hlen := Nat.le_of_ble_eq_true h1.1
    have hx : -2147483648 ≤ x ∧ x ≤ 2147483647 := SS.2.2.2.2.2.1.hd
    have hlo := h1.2.1
    refine va_mabs X.1 X.2.1 (by rw [X.2.2.1]; exact SS.2.2.2.1.1.1.symm) X.2.2.2.1 (X.2.2.2.2.1 _ hl) (X.2.2.2.2.1 _ wd_91) (X.2.2.2.2.1 _ wd_438) (X.2.2.2.2.1 _ wm_abs) (by show 1 ≤ lvl + 1; omega) (by rw [mv_catsum]; show st'.length + 13 ≤ 40 + 30 * lvl; omega) (Nat.zero_le _) (Nat.zero_le _) hd ?_
    have e : (if 0 ≤ Int32.ofInt x then Int32.ofInt x else 0 - Int32.ofInt x) = Int32.ofInt (if 0 ≤ x then x else -x) := by
      by_cases q : (0 : Int32) ≤ Int32.ofInt x
      · rw [if_pos q, if_pos ((mv_ile mv_r0 hx).mp q)]
      · rw [if_neg q, if_neg (fun z => q ((mv_ile mv_r0 hx).mpr z)), mv_i0, mv_sub]
        congr 1
        omega
    rw [e]
    refine kk _ _ (.inl (if 0 ≤ x then x else -x) :: st') _ _ _ _ h1.2.2 ⟨SS.1, SS.2.1, SS.2.2.1, SS.2.2.2.1, SS.2.2.2.2.1, SS.2.2.2.2.2.1.tl.cons ?_, SS.2.2.2.2.2.2⟩
    show _ ∧ _
    split <;> constructor <;> omega
end MVM
/-! a reference field, its cell's number in a clean form -/
def mv_gi (a b j : Nat) (k : Nat → Prop) : Prop := cond (Nat.beq a 0) (k b) (cond (Nat.beq a 1) (k j) (k (3 * j)))
def mo_getq (C t2 a b nx : Nat) : mv_O := fun K _ L st M => match st with
  | .inr (t, j) :: st' => cond (Nat.beq t C) (mv_gi a b j (fun i => K nx L (.inr (t2, i) :: st') M)) False
  | _ => False
theorem ms_getq {cc : ByteArray} {maxL : Nat} {ret : Option FieldType} {own : String} {lvl pc C t2 a b nx : Nat} (h : mv_Snd cc maxL ret own lvl pc (mo_getr C t2 (fun j => a * j + b) nx)) (hab : (a = 0 ∨ (a = 1 ∧ b = 0)) ∨ (a = 3 ∧ b = 0)) : mv_Snd cc maxL ret own lvl pc (mo_getq C t2 a b nx) := by
  intro p l e s m args below meth c ad D cA K Q L st M H locs ls X hK hN hh S kk
  refine h p l e s m args below meth c ad D cA K Q L st M H locs ls X hK hN ?_ S kk
  match st, hh with
  | .inr (t, j) :: st', hh =>
    obtain ⟨h1, h2⟩ := mv_cond hh
    show cond (Nat.beq t C) (K nx L (.inr (t2, a * j + b) :: st') M) False
    rw [h1]
    rcases hab with (rfl | ⟨rfl, rfl⟩) | ⟨rfl, rfl⟩
    · have e : 0 * j + b = b := by omega
      rw [e]; exact h2
    · have e : 1 * j + 0 = j := by omega
      rw [e]; exact h2
    · exact h2
