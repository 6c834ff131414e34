/-! What the constructors make, worked out. -/
def mg_z (t k : Nat) : Int := if t = 14 then (if k = 0 then 3 else if k = 1 then 12 else if k = 2 then 2 else 0) else if t = 6 then (if k = 3 then -1 else 0) else if t = 10 then (if k = 6 then 1 else 0) else if t = 24 then (if k = 2 then 3 else if k = 3 then 12 else if k = 4 then 2 else 0) else 0
def mg_M0 : mv_M := (fun t _ k => mg_z t k, fun i => cond (Nat.ble 5 i) 0 (i + 1))
abbrev sy_L (m : Nat) : mv_L := some (.inr (m, 0)) :: List.replicate ((sy_y m).2.2.1 - 1) none
def sy_lt : Nat → (Nat → Bool) → Bool
  | 0, _ => true
  | n + 1, p => p n && sy_lt n p
def sy_eqo (o : Option (Nat × Nat)) (a b : Nat) : Bool := match o with
  | none => false
  | some (c, d) => Nat.beq c a && Nat.beq d b
def sy_fl : List (Nat × Nat) → Nat → List (Nat × Nat)
  | [], _ => []
  | (a, b) :: r, t => cond (Nat.beq a t) ((a, b) :: sy_fl r t) (sy_fl r t)
def sy_fr : List (Nat × Nat × Nat × Nat × Nat) → Nat → List (Nat × Nat × Nat × Nat × Nat)
  | [], _ => []
  | (a, b) :: r, t => cond (Nat.beq a t) ((a, b) :: sy_fr r t) (sy_fr r t)
def sy_fz : List (Nat × Nat × Nat × Int) → Nat → List (Nat × Nat × Nat × Int)
  | [], _ => []
  | (a, b) :: r, t => cond (Nat.beq a t) ((a, b) :: sy_fz r t) (sy_fz r t)
def sy_fc (R : List (Nat × Nat × Nat × Nat × Nat)) (t j : Nat) : List (Option (Nat × Nat × Nat)) → Nat → Bool
  | [], _ => true
  | none :: r, k => sy_fc R t j r (k + 1)
  | some (t2, a, b) :: r, k => sy_eqo (sy_R R t j k) t2 (a * j + b) && sy_fc R t j r (k + 1)
def sy_cell (I : List (Nat × Nat)) (R : List (Nat × Nat × Nat × Nat × Nat)) (Z : List (Nat × Nat × Nat × Int)) (t j : Nat) : Bool := sy_in I t j && (sy_fc R t j (mv_fd t) 0 && (cond (mv_rt t) (sy_lt (mv_len t) (fun i => sy_eqo (sy_R R t j i) (mv_et t) (mv_ei mg_M0 t j i))) true && (cond (Nat.beq t 14 || (Nat.beq t 6 || (Nat.beq t 10 || Nat.beq t 24))) (sy_lt 7 (fun k => decide (sy_Z Z t j k = mg_z t k))) true)))
def sy_ck (X : sy_S) : Bool := sy_lt 33 (fun t => sy_lt (mv_cnt t) (fun j => sy_cell (sy_fl X.1 t) (sy_fr X.2.1 t) (sy_fz X.2.2 t) t j)) && X.2.2.all (fun e => decide (e.2.2.2 = mg_z e.1 e.2.2.1))
def sy_fin : Bool := match sy_run 100000 10 0 (sy_L 10) [] ([(10, 0)], [], []) 0 0 with
  | none => false
  | some X => sy_ck X
set_option maxRecDepth 1000000 in
theorem sy_fin_ok : sy_fin = true := by decide +kernel
