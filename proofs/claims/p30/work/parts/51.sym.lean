/-! The constructors, run by symbols: what a constructor makes is worked out on names alone. -/
abbrev sy_op : Type := Nat × Nat × Nat × Nat × Nat × Int
abbrev sy_Y : Type := MethodName × ByteArray × Nat × Nat × Nat × Nat
def sy_y : Nat → sy_Y
  | 0 => (yX0_init, cX0_init, 1, 0, 1, 8)
  | 1 => (yX1_init, cX1_init, 2, 1, 23, 153)
  | 2 => (yX2_init, cX2_init, 1, 0, 2, 203)
  | 3 => (yX3_init, cX3_init, 2, 3, 376, 2410)
  | 4 => (yX4_init, cX4_init, 2, 1, 20, 1614)
  | 5 => (yX5_init, cX5_init, 1, 0, 0, 0)
  | 6 => (yX6_init, cX6_init, 1, 2, 26, 300)
  | 7 => (yX7_init, cX7_init, 2, 2, 74, 478)
  | 8 => (yX8_init, cX8_init, 1, 0, 1, 140)
  | 9 => (yX9_init, cX9_init, 1, 2, 66, 3392)
  | 10 => (yX10_init, cX10_init, 1, 4, 567, 8213)
  | _ + 11 => (yX0_init, cX0_init, 1, 0, 1, 8)
def sy_t : Nat → List (Nat × sy_op)
  | 0 => [(0, (2, 0, 0, 0, 1, 0)), (1, (9, 0, 0, 0, 4, 0)), (4, (2, 0, 0, 0, 5, 0)), (5, (0, 0, 0, 0, 7, 8)), (7, (11, 15, 8, 0, 9, 0)), (9, (12, 0, 0, 0, 12, 0)), (12, (8, 0, 0, 0, 0, 0))]
  | 1 => [(0, (2, 0, 0, 0, 1, 0)), (1, (9, 0, 0, 0, 4, 0)), (4, (2, 0, 0, 0, 5, 0)), (5, (0, 0, 0, 0, 7, 6)), (7, (11, 12, 6, 0, 10, 0)), (10, (12, 1, 0, 0, 13, 0)), (13, (2, 0, 0, 0, 14, 0)), (14, (0, 0, 0, 0, 16, 8)), (16, (11, 13, 8, 0, 19, 0)), (19, (12, 1, 1, 0, 22, 0)), (22, (2, 0, 0, 0, 23, 0)), (23, (0, 0, 0, 0, 24, 3)), (24, (11, 14, 3, 0, 26, 0)), (26, (12, 1, 2, 0, 29, 0)), (29, (0, 0, 0, 0, 30, 0)), (30, (3, 1, 0, 0, 31, 0)), (31, (1, 1, 0, 0, 32, 0)), (32, (0, 0, 0, 0, 34, 6)), (34, (7, 56, 0, 0, 37, 0)), (37, (2, 0, 0, 0, 38, 0)), (38, (15, 1, 0, 12, 41, 0)), (41, (1, 1, 0, 0, 42, 0)), (42, (10, 0, 4, 0, 45, 0)), (45, (5, 0, 0, 0, 46, 0)), (46, (18, 0, 0, 0, 49, 0)), (49, (17, 12, 0, 6, 50, 0)), (50, (4, 1, 0, 0, 53, 1)), (53, (6, 0, 0, 0, 31, 0)), (56, (0, 0, 0, 0, 57, 0)), (57, (3, 1, 0, 0, 58, 0)), (58, (1, 1, 0, 0, 59, 0)), (59, (0, 0, 0, 0, 61, 8)), (61, (7, 83, 0, 0, 64, 0)), (64, (2, 0, 0, 0, 65, 0)), (65, (15, 1, 1, 13, 68, 0)), (68, (1, 1, 0, 0, 69, 0)), (69, (10, 5, 8, 0, 72, 0)), (72, (5, 0, 0, 0, 73, 0)), (73, (18, 5, 0, 0, 76, 0)), (76, (17, 13, 5, 8, 77, 0)), (77, (4, 1, 0, 0, 80, 1)), (80, (6, 0, 0, 0, 58, 0)), (83, (2, 0, 0, 0, 84, 0)), (84, (15, 1, 2, 14, 87, 0)), (87, (0, 0, 0, 0, 88, 0)), (88, (0, 0, 0, 0, 89, 3)), (89, (16, 14, 3, 0, 90, 0)), (90, (2, 0, 0, 0, 91, 0)), (91, (15, 1, 2, 14, 94, 0)), (94, (0, 0, 0, 0, 95, 1)), (95, (0, 0, 0, 0, 97, 12)), (97, (16, 14, 3, 0, 98, 0)), (98, (2, 0, 0, 0, 99, 0)), (99, (15, 1, 2, 14, 102, 0)), (102, (0, 0, 0, 0, 103, 2)), (103, (0, 0, 0, 0, 104, 2)), (104, (16, 14, 3, 0, 105, 0)), (105, (8, 0, 0, 0, 0, 0))]
  | 2 => [(0, (2, 0, 0, 0, 1, 0)), (1, (9, 0, 0, 0, 4, 0)), (4, (2, 0, 0, 0, 5, 0)), (5, (0, 0, 0, 0, 8, 200)), (8, (11, 22, 200, 0, 10, 0)), (10, (12, 2, 0, 0, 13, 0)), (13, (2, 0, 0, 0, 14, 0)), (14, (0, 0, 0, 0, 15, 3)), (15, (11, 23, 3, 0, 17, 0)), (17, (12, 2, 1, 0, 20, 0)), (20, (8, 0, 0, 0, 0, 0))]
  | 3 => [(0, (2, 0, 0, 0, 1, 0)), (1, (9, 0, 0, 0, 4, 0)), (4, (2, 0, 0, 0, 5, 0)), (5, (0, 0, 0, 0, 6, 5)), (6, (11, 18, 5, 0, 9, 0)), (9, (12, 3, 0, 0, 12, 0)), (12, (0, 0, 0, 0, 13, 0)), (13, (3, 1, 0, 0, 14, 0)), (14, (1, 1, 0, 0, 15, 0)), (15, (0, 0, 0, 0, 16, 5)), (16, (7, 38, 0, 0, 19, 0)), (19, (2, 0, 0, 0, 20, 0)), (20, (15, 3, 0, 18, 23, 0)), (23, (1, 1, 0, 0, 24, 0)), (24, (10, 7, 3, 0, 27, 0)), (27, (5, 0, 0, 0, 28, 0)), (28, (18, 7, 0, 0, 31, 0)), (31, (17, 18, 7, 5, 32, 0)), (32, (4, 1, 0, 0, 35, 1)), (35, (6, 0, 0, 0, 14, 0)), (38, (8, 0, 0, 0, 0, 0))]
  | 4 => [(0, (2, 0, 0, 0, 1, 0)), (1, (9, 0, 0, 0, 4, 0)), (4, (2, 0, 0, 0, 5, 0)), (5, (0, 0, 0, 0, 8, 360)), (8, (11, 20, 360, 0, 10, 0)), (10, (12, 4, 0, 0, 13, 0)), (13, (2, 0, 0, 0, 14, 0)), (14, (0, 0, 0, 0, 16, 6)), (16, (11, 21, 6, 0, 19, 0)), (19, (12, 4, 1, 0, 22, 0)), (22, (0, 0, 0, 0, 23, 0)), (23, (3, 1, 0, 0, 24, 0)), (24, (1, 1, 0, 0, 25, 0)), (25, (0, 0, 0, 0, 27, 6)), (27, (7, 49, 0, 0, 30, 0)), (30, (2, 0, 0, 0, 31, 0)), (31, (15, 4, 1, 21, 34, 0)), (34, (1, 1, 0, 0, 35, 0)), (35, (10, 2, 5, 0, 38, 0)), (38, (5, 0, 0, 0, 39, 0)), (39, (18, 2, 0, 0, 42, 0)), (42, (17, 21, 2, 6, 43, 0)), (43, (4, 1, 0, 0, 46, 1)), (46, (6, 0, 0, 0, 24, 0)), (49, (8, 0, 0, 0, 0, 0))]
  | 5 => [(0, (2, 0, 0, 0, 1, 0)), (1, (9, 0, 0, 0, 4, 0)), (4, (8, 0, 0, 0, 0, 0))]
  | 6 => [(0, (2, 0, 0, 0, 1, 0)), (1, (9, 0, 0, 0, 4, 0)), (4, (2, 0, 0, 0, 5, 0)), (5, (10, 8, 2, 0, 8, 0)), (8, (5, 0, 0, 0, 9, 0)), (9, (18, 8, 0, 0, 12, 0)), (12, (12, 6, 0, 0, 15, 0)), (15, (2, 0, 0, 0, 16, 0)), (16, (10, 1, 5, 0, 19, 0)), (19, (5, 0, 0, 0, 20, 0)), (20, (18, 1, 0, 0, 23, 0)), (23, (12, 6, 1, 0, 26, 0)), (26, (2, 0, 0, 0, 27, 0)), (27, (0, 0, 0, 0, 28, (-1))), (28, (13, 6, 3, 0, 31, 0)), (31, (8, 0, 0, 0, 0, 0))]
  | 7 => [(0, (2, 0, 0, 0, 1, 0)), (1, (9, 0, 0, 0, 4, 0)), (4, (2, 0, 0, 0, 5, 0)), (5, (10, 1, 5, 0, 8, 0)), (8, (5, 0, 0, 0, 9, 0)), (9, (18, 1, 0, 0, 12, 0)), (12, (12, 7, 0, 0, 15, 0)), (15, (2, 0, 0, 0, 16, 0)), (16, (0, 0, 0, 0, 17, 2)), (17, (11, 16, 2, 0, 20, 0)), (20, (12, 7, 1, 0, 23, 0)), (23, (2, 0, 0, 0, 24, 0)), (24, (0, 0, 0, 0, 25, 2)), (25, (11, 17, 2, 0, 27, 0)), (27, (12, 7, 2, 0, 30, 0)), (30, (0, 0, 0, 0, 31, 0)), (31, (3, 1, 0, 0, 32, 0)), (32, (1, 1, 0, 0, 33, 0)), (33, (0, 0, 0, 0, 34, 2)), (34, (7, 56, 0, 0, 37, 0)), (37, (2, 0, 0, 0, 38, 0)), (38, (15, 7, 1, 16, 41, 0)), (41, (1, 1, 0, 0, 42, 0)), (42, (10, 1, 5, 0, 45, 0)), (45, (5, 0, 0, 0, 46, 0)), (46, (18, 1, 0, 0, 49, 0)), (49, (17, 16, 1, 2, 50, 0)), (50, (4, 1, 0, 0, 53, 1)), (53, (6, 0, 0, 0, 32, 0)), (56, (8, 0, 0, 0, 0, 0))]
  | 8 => [(0, (2, 0, 0, 0, 1, 0)), (1, (9, 0, 0, 0, 4, 0)), (4, (2, 0, 0, 0, 5, 0)), (5, (0, 0, 0, 0, 8, 140)), (8, (11, 19, 140, 0, 10, 0)), (10, (12, 8, 0, 0, 13, 0)), (13, (8, 0, 0, 0, 0, 0))]
  | 9 => [(0, (2, 0, 0, 0, 1, 0)), (1, (9, 0, 0, 0, 4, 0)), (4, (2, 0, 0, 0, 5, 0)), (5, (10, 1, 5, 0, 8, 0)), (8, (5, 0, 0, 0, 9, 0)), (9, (18, 1, 0, 0, 12, 0)), (12, (12, 9, 0, 0, 15, 0)), (15, (2, 0, 0, 0, 16, 0)), (16, (10, 4, 3, 0, 19, 0)), (19, (5, 0, 0, 0, 20, 0)), (20, (18, 4, 0, 0, 23, 0)), (23, (12, 9, 1, 0, 26, 0)), (26, (2, 0, 0, 0, 27, 0)), (27, (10, 4, 3, 0, 30, 0)), (30, (5, 0, 0, 0, 31, 0)), (31, (18, 4, 0, 0, 34, 0)), (34, (12, 9, 2, 0, 37, 0)), (37, (8, 0, 0, 0, 0, 0))]
  | 10 => [(0, (2, 0, 0, 0, 1, 0)), (1, (9, 0, 0, 0, 4, 0)), (4, (2, 0, 0, 0, 5, 0)), (5, (10, 7, 3, 0, 8, 0)), (8, (5, 0, 0, 0, 9, 0)), (9, (18, 7, 0, 0, 12, 0)), (12, (12, 10, 0, 0, 15, 0)), (15, (2, 0, 0, 0, 16, 0)), (16, (10, 3, 2, 0, 19, 0)), (19, (5, 0, 0, 0, 20, 0)), (20, (18, 3, 0, 0, 23, 0)), (23, (12, 10, 1, 0, 26, 0)), (26, (2, 0, 0, 0, 27, 0)), (27, (10, 6, 5, 0, 30, 0)), (30, (5, 0, 0, 0, 31, 0)), (31, (18, 6, 0, 0, 34, 0)), (34, (12, 10, 2, 0, 37, 0)), (37, (2, 0, 0, 0, 38, 0)), (38, (2, 0, 0, 0, 39, 0)), (39, (15, 10, 2, 6, 42, 0)), (42, (15, 6, 0, 8, 45, 0)), (45, (12, 10, 3, 0, 48, 0)), (48, (2, 0, 0, 0, 49, 0)), (49, (10, 9, 6, 0, 52, 0)), (52, (5, 0, 0, 0, 53, 0)), (53, (18, 9, 0, 0, 56, 0)), (56, (12, 10, 4, 0, 59, 0)), (59, (2, 0, 0, 0, 60, 0)), (60, (10, 4, 3, 0, 63, 0)), (63, (5, 0, 0, 0, 64, 0)), (64, (18, 4, 0, 0, 67, 0)), (67, (12, 10, 5, 0, 70, 0)), (70, (2, 0, 0, 0, 71, 0)), (71, (0, 0, 0, 0, 72, 1)), (72, (14, 10, 6, 0, 75, 0)), (75, (8, 0, 0, 0, 0, 0))]
  | _ + 11 => []
def sy_den (m : Nat) : sy_op → mg_O
  | (0, _, _, _, nx, z) => ng_const z nx
  | (1, i, _, _, nx, _) => ng_iload i nx
  | (2, i, _, _, nx, _) => ng_aload i nx
  | (3, i, _, _, nx, _) => ng_istore i nx
  | (4, i, _, _, nx, d) => ng_iinc i d nx
  | (5, _, _, _, nx, _) => ng_dup nx
  | (6, _, _, _, tg, _) => ng_goto tg
  | (7, tg, _, _, nx, _) => ng_cge tg nx
  | (8, _, _, _, _, _) => ng_ret (sy_y m).2.2.2.2.1 (sy_y m).2.2.2.2.2
  | (9, _, _, _, nx, _) => ng_obj nx
  | (10, t, N, _, nx, _) => ng_new t N (sy_y m).2.2.2.2.1 (sy_y m).2.2.2.2.2 nx
  | (11, t, N, _, nx, _) => ng_arr t N (sy_y m).2.2.2.2.1 (sy_y m).2.2.2.2.2 nx
  | (12, C, k, _, nx, _) => ng_putr C k nx
  | (13, C, k, _, nx, _) => ng_puti C k nx
  | (14, C, k, _, nx, _) => ng_putz C k nx
  | (15, C, k, t2, nx, _) => ng_getr C k t2 nx
  | (16, T, N, _, nx, _) => ng_iast T N nx
  | (17, T, T2, N, nx, _) => ng_aast T T2 N nx
  | (18, k, _, _, nx, _) => ng_init (sy_y k).2.2.2.1 (sy_y k).2.2.2.2.1 (sy_y k).2.2.2.2.2 (sy_y k).1 (sy_y k).2.1 (sy_y k).2.2.1 k (sy_y m).2.2.2.2.1 (sy_y m).2.2.2.2.2 nx
  | (_ + 19, _, _, _, _, _) => ng_no
abbrev sy_snd (m : Nat) (x : Nat × mg_O) : Prop := mg_Snd (sy_y m).2.1 (sy_y m).2.2.1 (sy_y m).1.cls (sy_y m).2.2.2.1 (sy_y m).2.2.2.2.1 (sy_y m).2.2.2.2.2 x.1 x.2
abbrev sy_tab (m : Nat) : List (Nat × mg_O) := (sy_t m).map (fun x => (x.1, sy_den m x.2))
theorem sy_ts0 : ∀ x ∈ sy_tab 0, sy_snd 0 x := ts_X0_init
theorem sy_ts1 : ∀ x ∈ sy_tab 1, sy_snd 1 x := ts_X1_init
theorem sy_ts2 : ∀ x ∈ sy_tab 2, sy_snd 2 x := ts_X2_init
theorem sy_ts3 : ∀ x ∈ sy_tab 3, sy_snd 3 x := ts_X3_init
theorem sy_ts4 : ∀ x ∈ sy_tab 4, sy_snd 4 x := ts_X4_init
theorem sy_ts5 : ∀ x ∈ sy_tab 5, sy_snd 5 x := ts_X5_init
theorem sy_ts6 : ∀ x ∈ sy_tab 6, sy_snd 6 x := ts_X6_init
theorem sy_ts7 : ∀ x ∈ sy_tab 7, sy_snd 7 x := ts_X7_init
theorem sy_ts8 : ∀ x ∈ sy_tab 8, sy_snd 8 x := ts_X8_init
theorem sy_ts9 : ∀ x ∈ sy_tab 9, sy_snd 9 x := ts_X9_init
theorem sy_ts10 : ∀ x ∈ sy_tab 10, sy_snd 10 x := ts_X10_init
theorem sy_ts : ∀ m, ∀ x ∈ sy_tab m, sy_snd m x
  | 0 => sy_ts0
  | 1 => sy_ts1
  | 2 => sy_ts2
  | 3 => sy_ts3
  | 4 => sy_ts4
  | 5 => sy_ts5
  | 6 => sy_ts6
  | 7 => sy_ts7
  | 8 => sy_ts8
  | 9 => sy_ts9
  | 10 => sy_ts10
  | _ + 11 => fun _ h => by cases h
theorem sy_ny : ∀ m, plainName (sy_y m).1.cls = true ∧ (sy_y m).1.name = "<init>" ∧ 1 ≤ (sy_y m).2.2.1
  | 0 => ⟨by decide +kernel, rfl, by decide⟩
  | 1 => ⟨by decide +kernel, rfl, by decide⟩
  | 2 => ⟨by decide +kernel, rfl, by decide⟩
  | 3 => ⟨by decide +kernel, rfl, by decide⟩
  | 4 => ⟨by decide +kernel, rfl, by decide⟩
  | 5 => ⟨by decide +kernel, rfl, by decide⟩
  | 6 => ⟨by decide +kernel, rfl, by decide⟩
  | 7 => ⟨by decide +kernel, rfl, by decide⟩
  | 8 => ⟨by decide +kernel, rfl, by decide⟩
  | 9 => ⟨by decide +kernel, rfl, by decide⟩
  | 10 => ⟨by decide +kernel, rfl, by decide⟩
  | _ + 11 => sy_ny 0
-- states by symbols: the cells, the references, the numbers
abbrev sy_S : Type := List (Nat × Nat) × List (Nat × Nat × Nat × Nat × Nat) × List (Nat × Nat × Nat × Int)
def sy_in : List (Nat × Nat) → Nat → Nat → Bool
  | [], _, _ => false
  | (a, b) :: r, t, j => cond (Nat.beq a t) (cond (Nat.beq b j) true (sy_in r t j)) (sy_in r t j)
def sy_R : List (Nat × Nat × Nat × Nat × Nat) → Nat → Nat → Nat → Option (Nat × Nat)
  | [], _, _, _ => none
  | (a, b, c, d, e) :: r, t, j, k => cond (Nat.beq a t) (cond (Nat.beq b j) (cond (Nat.beq c k) (some (d, e)) (sy_R r t j k)) (sy_R r t j k)) (sy_R r t j k)
def sy_Z : List (Nat × Nat × Nat × Int) → Nat → Nat → Nat → Int
  | [], _, _, _ => 0
  | (a, b, c, x) :: r, t, j, k => cond (Nat.beq a t) (cond (Nat.beq b j) (cond (Nat.beq c k) x (sy_Z r t j k)) (sy_Z r t j k)) (sy_Z r t j k)
def sy_ct : List (Nat × Nat) → Nat → Nat → Nat
  | [], _, n => n
  | (a, _) :: r, t, n => cond (Nat.beq a t) (sy_ct r t (n + 1)) (sy_ct r t n)
/-- the 18th content is the reader's, the 19th the trial's -/
def sy_sw (c : Nat) : Nat := cond (Nat.beq c 18) 19 (cond (Nat.beq c 19) 18 c)
def sy_pick (t c : Nat) : Nat := cond (Nat.beq t 1 || (Nat.beq t 12 || (Nat.beq t 13 || Nat.beq t 14))) (sy_sw c) (cond (Nat.beq t 0 || Nat.beq t 15) (6 * sy_sw (c / 6) + c % 6) (cond (Nat.beq t 5) (8 * sy_sw (c / 8) + c % 8) c))
def sy_m (X : sy_S) (G : mg_G) : Prop := (∀ t j, (t, j) ∈ G.1 ↔ sy_in X.1 t j = true) ∧ (∀ t j k, G.2.2.1 t j k = (sy_R X.2.1 t j k).map (fun y => G.2.1 y.1 y.2)) ∧ (∀ t j k y, sy_R X.2.1 t j k = some y → sy_in X.1 y.1 y.2 = true) ∧ ∀ t j k, G.2.2.2 t j k = sy_Z X.2.2 t j k
theorem sy_in_cons {a b t j : Nat} {r : List (Nat × Nat)} : sy_in ((a, b) :: r) t j = true ↔ (t = a ∧ j = b) ∨ sy_in r t j = true := by
  show cond (Nat.beq a t) (cond (Nat.beq b j) true (sy_in r t j)) (sy_in r t j) = true ↔ _
  cases h1 : Nat.beq a t with
  | false =>
    have : a ≠ t := fun e => by rw [e, Nat.beq_refl] at h1; cases h1
    exact ⟨fun h => Or.inr h, fun h => h.elim (fun z => absurd z.1.symm this) id⟩
  | true =>
    have e1 := Nat.eq_of_beq_eq_true h1
    cases h2 : Nat.beq b j with
    | false =>
      have : b ≠ j := fun e => by rw [e, Nat.beq_refl] at h2; cases h2
      exact ⟨fun h => Or.inr h, fun h => h.elim (fun z => absurd z.2.symm this) id⟩
    | true => exact ⟨fun _ => Or.inl ⟨e1.symm, (Nat.eq_of_beq_eq_true h2).symm⟩, fun _ => rfl⟩
theorem sy_R_cons {a b c d e t j k : Nat} {r : List (Nat × Nat × Nat × Nat × Nat)} : sy_R ((a, b, c, d, e) :: r) t j k = if t = a ∧ j = b ∧ k = c then some (d, e) else sy_R r t j k := by
  show cond _ _ _ = _
  cases h1 : Nat.beq a t with
  | false =>
    have : a ≠ t := fun e => by rw [e, Nat.beq_refl] at h1; cases h1
    rw [if_neg (fun z => this z.1.symm)]; rfl
  | true =>
    have e1 := Nat.eq_of_beq_eq_true h1
    cases h2 : Nat.beq b j with
    | false =>
      have : b ≠ j := fun e => by rw [e, Nat.beq_refl] at h2; cases h2
      rw [if_neg (fun z => this z.2.1.symm)]; rfl
    | true =>
      have e2 := Nat.eq_of_beq_eq_true h2
      cases h3 : Nat.beq c k with
      | false =>
        have : c ≠ k := fun e => by rw [e, Nat.beq_refl] at h3; cases h3
        rw [if_neg (fun z => this z.2.2.symm)]; rfl
      | true =>
        rw [if_pos ⟨e1.symm, e2.symm, (Nat.eq_of_beq_eq_true h3).symm⟩]; rfl
theorem sy_Z_cons {a b c t j k : Nat} {x : Int} {r : List (Nat × Nat × Nat × Int)} : sy_Z ((a, b, c, x) :: r) t j k = if t = a ∧ j = b ∧ k = c then x else sy_Z r t j k := by
  show cond _ _ _ = _
  cases h1 : Nat.beq a t with
  | false =>
    have : a ≠ t := fun e => by rw [e, Nat.beq_refl] at h1; cases h1
    rw [if_neg (fun z => this z.1.symm)]; rfl
  | true =>
    have e1 := Nat.eq_of_beq_eq_true h1
    cases h2 : Nat.beq b j with
    | false =>
      have : b ≠ j := fun e => by rw [e, Nat.beq_refl] at h2; cases h2
      rw [if_neg (fun z => this z.2.1.symm)]; rfl
    | true =>
      have e2 := Nat.eq_of_beq_eq_true h2
      cases h3 : Nat.beq c k with
      | false =>
        have : c ≠ k := fun e => by rw [e, Nat.beq_refl] at h3; cases h3
        rw [if_neg (fun z => this z.2.2.symm)]; rfl
      | true =>
        rw [if_pos ⟨e1.symm, e2.symm, (Nat.eq_of_beq_eq_true h3).symm⟩]; rfl
theorem sy_m.add {X : sy_S} {G : mg_G} {t j q : Nat} (h : sy_m X G) (hn : sy_in X.1 t j = false) : sy_m ((t, j) :: X.1, X.2.1, X.2.2) (mg_add G t j q) := by
  refine ⟨fun a b => ?_, fun a b k => ?_, fun a b k y hy => sy_in_cons.mpr (Or.inr (h.2.2.1 a b k y hy)), h.2.2.2⟩
  · rw [sy_in_cons, ← h.1 a b]
    show (a, b) ∈ G.1 ++ [(t, j)] ↔ _
    rw [List.mem_append, List.mem_singleton, Prod.mk.injEq]
    exact Or.comm
  · show G.2.2.1 a b k = _
    rw [h.2.1 a b k]
    cases hr : sy_R X.2.1 a b k with
    | none => rfl
    | some y =>
      show some _ = some (if y.1 = t ∧ y.2 = j then q else G.2.1 y.1 y.2)
      have := h.2.2.1 a b k y hr
      rw [if_neg (fun z => by rw [z.1, z.2, hn] at this; cases this)]
theorem sy_m.setR {X : sy_S} {G : mg_G} {t j k t2 j2 : Nat} (h : sy_m X G) (hn : sy_in X.1 t2 j2 = true) : sy_m (X.1, (t, j, k, t2, j2) :: X.2.1, X.2.2) (mg_setR G t j k (some (G.2.1 t2 j2))) := by
  refine ⟨h.1, fun a b c => ?_, fun a b c y hy => ?_, h.2.2.2⟩
  · show (if a = t ∧ b = j ∧ c = k then some (G.2.1 t2 j2) else G.2.2.1 a b c) = (sy_R ((t, j, k, t2, j2) :: X.2.1) a b c).map _
    rw [sy_R_cons]
    by_cases e : a = t ∧ b = j ∧ c = k
    · rw [if_pos e, if_pos e]; rfl
    · rw [if_neg e, if_neg e]; exact h.2.1 a b c
  · have hy : sy_R ((t, j, k, t2, j2) :: X.2.1) a b c = some y := hy
    rw [sy_R_cons] at hy
    by_cases e : a = t ∧ b = j ∧ c = k
    · rw [if_pos e] at hy
      cases hy; exact hn
    · rw [if_neg e] at hy
      exact h.2.2.1 a b c y hy
theorem sy_m.setZ {X : sy_S} {G : mg_G} {t j k : Nat} {x : Int} (h : sy_m X G) : sy_m (X.1, X.2.1, (t, j, k, x) :: X.2.2) (mg_setZ G t j k x) := by
  refine ⟨h.1, h.2.1, h.2.2.1, fun a b c => ?_⟩
  show mv_up G.2.2.2 t j k x a b c = sy_Z ((t, j, k, x) :: X.2.2) a b c
  rw [sy_Z_cons]
  by_cases e : a = t ∧ b = j ∧ c = k
  · rw [if_pos e, e.1, e.2.1, e.2.2]; exact mv_up_eq
  · rw [if_neg e, mv_up_ne e]; exact h.2.2.2 a b c
def sy_get : mv_L → Nat → Option mv_V
  | [], _ => none
  | none :: _, 0 => none
  | some v :: _, 0 => some v
  | _ :: L, n + 1 => sy_get L n
def sy_set : mv_L → Nat → mv_V → Option mv_L
  | [], _, _ => none
  | _ :: L, 0, v => some (some v :: L)
  | x :: L, n + 1, v => match sy_set L n v with
    | none => none
    | some L' => some (x :: L')
theorem sy_get_at : ∀ {L : mv_L} {i : Nat} {v : mv_V} {k : mv_V → Prop}, sy_get L i = some v → k v → mv_get L i k
  | [], _, _, _, h, _ => by cases h
  | none :: _, 0, _, _, h, _ => by cases h
  | some w :: _, 0, _, _, h, hk => by cases h; exact hk
  | none :: L, n + 1, _, _, h, hk => sy_get_at (L := L) h hk
  | some _ :: L, n + 1, _, _, h, hk => sy_get_at (L := L) h hk
theorem sy_set_at : ∀ {L : mv_L} {i : Nat} {v : mv_V} {L' : mv_L} {k : mv_L → Prop}, sy_set L i v = some L' → k L' → mv_set L i v k
  | [], _, _, _, _, h, _ => by cases h
  | _ :: L, 0, _, _, _, h, hk => by cases h; exact hk
  | x :: L, n + 1, v, L', k, h, hk => by
    cases hs : sy_set L n v with
    | none => simp only [sy_set, hs] at h; cases h
    | some L2 =>
      simp only [sy_set, hs] at h
      cases h
      exact sy_set_at (L := L) (k := fun L' => k (x :: L')) hs hk
theorem sy_pad : ∀ {n : Nat} {k : mv_L → Prop}, k (List.replicate n none) → mv_pad n k
  | 0, _, h => h
  | n + 1, k, h => sy_pad (n := n) (k := fun L => k (none :: L)) h
theorem sy_ent {v : mv_V} {n : Nat} {k : mv_L → Prop} (hn : 1 ≤ n) (h : k (some v :: List.replicate (n - 1) none)) : mv_ent [v] n k := by
  match n, hn, h with
  | n + 1, _, h => exact sy_pad (n := n) (k := fun L => k (some v :: L)) h
abbrev sy_F : Type := Nat → Nat → mv_L → List mv_V → sy_S → Nat → Nat → Option sy_S
def sy_ir (x : Int) : Bool := decide (-2147483648 ≤ x) && decide (x ≤ 2147483647)
def sy_step (rec : sy_F) (m : Nat) (L : mv_L) (st : List mv_V) (X : sy_S) (nc ns : Nat) : sy_op → Option sy_S
  | (0, _, _, _, nx, z) => rec m nx L (.inl z :: st) X nc ns
  | (1, i, _, _, nx, _) => match sy_get L i with
    | some (.inl x) => rec m nx L (.inl x :: st) X nc ns
    | _ => none
  | (2, i, _, _, nx, _) => match sy_get L i with
    | some (.inr y) => rec m nx L (.inr y :: st) X nc ns
    | _ => none
  | (3, i, _, _, nx, _) => match st with
    | .inl x :: st' => match sy_set L i (.inl x) with
      | some L' => rec m nx L' st' X nc ns
      | none => none
    | _ => none
  | (4, i, _, _, nx, d) => match sy_get L i with
    | some (.inl x) => cond (sy_ir (x + d)) (match sy_set L i (.inl (x + d)) with
      | some L' => rec m nx L' st X nc ns
      | none => none) none
    | _ => none
  | (5, _, _, _, nx, _) => match st with
    | v :: st' => rec m nx L (v :: v :: st') X nc ns
    | _ => none
  | (6, _, _, _, tg, _) => rec m tg L st X nc ns
  | (7, tg, _, _, nx, _) => match st with
    | .inl y :: .inl x :: st' => cond (decide (y ≤ x)) (rec m tg L st' X nc ns) (rec m nx L st' X nc ns)
    | _ => none
  | (8, _, _, _, _, _) => match st with
    | [] => cond (Nat.ble nc (sy_y m).2.2.2.2.1 && Nat.ble ns (sy_y m).2.2.2.2.2) (some X) none
    | _ => none
  | (9, _, _, _, nx, _) => match st with
    | .inr _ :: st' => cond (Nat.ble st'.length 8) (rec m nx L st' X nc ns) none
    | _ => none
  | (10, t, N, _, nx, _) => cond (sy_in X.1 t (sy_pick t (sy_ct X.1 t 0)) || !(Nat.ble (nc + 1) (sy_y m).2.2.2.2.1 && Nat.ble (ns + N) (sy_y m).2.2.2.2.2)) none
      (rec m nx L (.inr (t, sy_pick t (sy_ct X.1 t 0)) :: st) ((t, sy_pick t (sy_ct X.1 t 0)) :: X.1, X.2.1, X.2.2) (nc + 1) (ns + N))
  | (11, t, N, _, nx, _) => match st with
    | .inl n :: st' => cond (decide (n = (N : Int))) (cond (sy_in X.1 t (sy_pick t (sy_ct X.1 t 0)) || !(Nat.ble (nc + 1) (sy_y m).2.2.2.2.1 && Nat.ble (ns + N) (sy_y m).2.2.2.2.2)) none
      (rec m nx L (.inr (t, sy_pick t (sy_ct X.1 t 0)) :: st') ((t, sy_pick t (sy_ct X.1 t 0)) :: X.1, X.2.1, X.2.2) (nc + 1) (ns + N))) none
    | _ => none
  | (12, C, k, _, nx, _) => match st with
    | .inr (t2, j2) :: .inr (t, j) :: st' => cond (Nat.beq t C) (cond (sy_in X.1 t2 j2) (rec m nx L st' (X.1, (C, j, k, t2, j2) :: X.2.1, X.2.2) nc ns) none) none
    | _ => none
  | (13, C, k, _, nx, _) => match st with
    | .inl x :: .inr (t, j) :: st' => cond (Nat.beq t C) (rec m nx L st' (X.1, X.2.1, (C, j, k, x) :: X.2.2) nc ns) none
    | _ => none
  | (14, C, k, _, nx, _) => match st with
    | .inl x :: .inr (t, j) :: st' => cond (Nat.beq t C) (cond (decide (x = 0 ∨ x = 1)) (rec m nx L st' (X.1, X.2.1, (C, j, k, x) :: X.2.2) nc ns) none) none
    | _ => none
  | (15, C, k, t2, nx, _) => match st with
    | .inr (t, j) :: st' => cond (Nat.beq t C) (match sy_R X.2.1 C j k with
      | some (a, j2) => cond (Nat.beq a t2) (rec m nx L (.inr (t2, j2) :: st') X nc ns) none
      | none => none) none
    | _ => none
  | (16, T, N, _, nx, _) => match st with
    | .inl x :: .inl i :: .inr (t, j) :: st' => cond (Nat.beq t T) (cond (decide (0 ≤ i ∧ i < (N : Int))) (rec m nx L st' (X.1, X.2.1, (T, j, i.toNat, x) :: X.2.2) nc ns) none) none
    | _ => none
  | (17, T, T2, N, nx, _) => match st with
    | .inr (t2, j2) :: .inl i :: .inr (t, j) :: st' => cond (Nat.beq t T) (cond (Nat.beq t2 T2) (cond (decide (0 ≤ i ∧ i < (N : Int))) (cond (sy_in X.1 t2 j2) (rec m nx L st' (X.1, (T, j, i.toNat, t2, j2) :: X.2.1, X.2.2) nc ns) none) none) none) none
    | _ => none
  | (18, k, _, _, nx, _) => match st with
    | .inr (t, j) :: st' => cond (Nat.beq t k && (Nat.ble st'.length 8 && (Nat.ble (nc + (sy_y k).2.2.2.2.1) (sy_y m).2.2.2.2.1 && Nat.ble (ns + (sy_y k).2.2.2.2.2) (sy_y m).2.2.2.2.2)))
      (match rec k 0 (some (.inr (k, j)) :: List.replicate ((sy_y k).2.2.1 - 1) none) [] X 0 0 with
        | some X' => rec m nx L st' X' (nc + (sy_y k).2.2.2.2.1) (ns + (sy_y k).2.2.2.2.2)
        | none => none) none
    | _ => none
  | (_ + 19, _, _, _, _, _) => none
def sy_look : List (Nat × sy_op) → Nat → Option sy_op
  | [], _ => none
  | (q, o) :: r, pc => bif Nat.beq q pc then some o else sy_look r pc
def sy_run : Nat → sy_F
  | 0, _, _, _, _, _, _, _ => none
  | f + 1, m, pc, L, st, X, nc, ns => match sy_look (sy_t m) pc with
    | none => none
    | some o => sy_step (sy_run f) m L st X nc ns o
abbrev sy_J (m : Nat) (Q : mg_G → Prop) : mg_K := mg_J (sy_y m).2.1 (sy_y m).2.2.1 (sy_y m).1.cls (sy_y m).2.2.2.1 (sy_y m).2.2.2.2.1 (sy_y m).2.2.2.2.2 Q
def sy_good (rec : sy_F) : Prop := ∀ m pc L st X nc ns X', rec m pc L st X nc ns = some X' → ∀ (G : mg_G) (Q : mg_G → Prop), sy_m X G → (∀ G', sy_m X' G' → Q G') → sy_J m Q pc L st G nc ns
theorem sy_cond {α : Type} {b : Bool} {x : Option α} {y : α} (h : cond b x none = some y) : b = true ∧ x = some y := by
  cases b
  · cases h
  · exact ⟨rfl, h⟩
theorem sy_cond' {α : Type} {b : Bool} {x : Option α} {y : α} (h : cond b none x = some y) : b = false ∧ x = some y := by
  cases b
  · exact ⟨rfl, h⟩
  · cases h
theorem sy_and {a b : Bool} (h : (a && b) = true) : a = true ∧ b = true := by
  cases a <;> cases b <;> first | exact ⟨rfl, rfl⟩ | cases h
theorem sy_or {a b : Bool} (h : (a || b) = false) : a = false ∧ b = false := by
  cases a <;> cases b <;> first | exact ⟨rfl, rfl⟩ | cases h
theorem sy_room {a b c d : Nat} (h : (!(Nat.ble a b && Nat.ble c d)) = false) : a ≤ b ∧ c ≤ d := by
  have h2 : (Nat.ble a b && Nat.ble c d) = true := by
    cases hh : (Nat.ble a b && Nat.ble c d) with
    | true => rfl
    | false => rw [hh] at h; cases h
  exact ⟨Nat.le_of_ble_eq_true (sy_and h2).1, Nat.le_of_ble_eq_true (sy_and h2).2⟩
theorem sy_step_good {rec : sy_F} (hr : sy_good rec) {m : Nat} {L : mv_L} {st : List mv_V} {X X' : sy_S} {nc ns : Nat} : ∀ {o : sy_op}, sy_step rec m L st X nc ns o = some X' → ∀ {G : mg_G} {Q : mg_G → Prop}, sy_m X G → (∀ G', sy_m X' G' → Q G') → sy_den m o (sy_J m Q) Q L st G nc ns := by
  intro o h G Q hm hq
  have hni : ∀ t j, sy_in X.1 t j = false → (t, j) ∉ G.1 := fun t j hh z => by rw [(hm.1 t j).mp z] at hh; cases hh
  match o, h with
  | (0, _, _, _, nx, z), h => exact hr _ _ _ _ _ _ _ _ h G Q hm hq
  | (1, i, _, _, nx, _), h =>
    dsimp only [sy_step] at h
    split at h
    · rename_i x hg
      exact sy_get_at hg (hr _ _ _ _ _ _ _ _ h G Q hm hq)
    · cases h
  | (2, i, _, _, nx, _), h =>
    dsimp only [sy_step] at h
    split at h
    · rename_i x hg
      exact sy_get_at hg (hr _ _ _ _ _ _ _ _ h G Q hm hq)
    · cases h
  | (3, i, _, _, nx, _), h =>
    dsimp only [sy_step] at h
    split at h
    · rename_i x st'
      split at h
      · rename_i L' hs
        exact sy_set_at hs (hr _ _ _ _ _ _ _ _ h G Q hm hq)
      · cases h
    · cases h
  | (4, i, _, _, nx, d), h =>
    dsimp only [sy_step] at h
    split at h
    · rename_i x hg
      obtain ⟨hc, h⟩ := sy_cond h
      split at h
      · rename_i L' hs
        have h12 := sy_and hc
        exact sy_get_at hg ⟨⟨of_decide_eq_true h12.1, of_decide_eq_true h12.2⟩, sy_set_at hs (hr _ _ _ _ _ _ _ _ h G Q hm hq)⟩
      · cases h
    · cases h
  | (5, _, _, _, nx, _), h =>
    dsimp only [sy_step] at h
    split at h
    · exact hr _ _ _ _ _ _ _ _ h G Q hm hq
    · cases h
  | (6, _, _, _, tg, _), h => exact hr _ _ _ _ _ _ _ _ h G Q hm hq
  | (7, tg, _, _, nx, _), h =>
    dsimp only [sy_step] at h
    split at h
    · rename_i y x st' _
      by_cases e : y ≤ x
      · rw [decide_eq_true e] at h
        exact ⟨fun _ => hr _ _ _ _ _ _ _ _ h G Q hm hq, fun z => absurd z (by omega)⟩
      · rw [decide_eq_false e] at h
        exact ⟨fun z => absurd z e, fun _ => hr _ _ _ _ _ _ _ _ h G Q hm hq⟩
    · cases h
  | (8, _, _, _, _, _), h =>
    dsimp only [sy_step] at h
    split at h
    · obtain ⟨hc, h⟩ := sy_cond h
      cases h
      exact ⟨⟨Nat.le_of_ble_eq_true (sy_and hc).1, Nat.le_of_ble_eq_true (sy_and hc).2⟩, hq G hm⟩
    · cases h
  | (9, _, _, _, nx, _), h =>
    dsimp only [sy_step] at h
    split at h
    · obtain ⟨hc, h⟩ := sy_cond h
      show cond _ _ _
      rw [hc]
      exact hr _ _ _ _ _ _ _ _ h G Q hm hq
    · cases h
  | (10, t, N, _, nx, _), h =>
    dsimp only [sy_step] at h
    obtain ⟨hc, h⟩ := sy_cond' h
    obtain ⟨h1, h2⟩ := sy_or hc
    exact ⟨_, hni _ _ h1, sy_room h2, fun q => hr _ _ _ _ _ _ _ _ h _ Q (hm.add h1) hq⟩
  | (11, t, N, _, nx, _), h =>
    dsimp only [sy_step] at h
    split at h
    · rename_i n st'
      obtain ⟨hn, h⟩ := sy_cond h
      obtain ⟨hc, h⟩ := sy_cond' h
      obtain ⟨h1, h2⟩ := sy_or hc
      exact ⟨of_decide_eq_true hn, _, hni _ _ h1, sy_room h2, fun q => hr _ _ _ _ _ _ _ _ h _ Q (hm.add h1) hq⟩
    · cases h
  | (12, C, k, _, nx, _), h =>
    dsimp only [sy_step] at h
    split at h
    · obtain ⟨hc, h⟩ := sy_cond h
      obtain ⟨hi, h⟩ := sy_cond h
      show cond _ _ _
      rw [hc]
      exact hr _ _ _ _ _ _ _ _ h _ Q (hm.setR hi) hq
    · cases h
  | (13, C, k, _, nx, _), h =>
    dsimp only [sy_step] at h
    split at h
    · obtain ⟨hc, h⟩ := sy_cond h
      show cond _ _ _
      rw [hc]
      exact hr _ _ _ _ _ _ _ _ h _ Q hm.setZ hq
    · cases h
  | (14, C, k, _, nx, _), h =>
    dsimp only [sy_step] at h
    split at h
    · obtain ⟨hc, h⟩ := sy_cond h
      obtain ⟨hi, h⟩ := sy_cond h
      show cond _ _ _
      rw [hc]
      exact ⟨of_decide_eq_true hi, hr _ _ _ _ _ _ _ _ h _ Q hm.setZ hq⟩
    · cases h
  | (15, C, k, t2, nx, _), h =>
    dsimp only [sy_step] at h
    split at h
    · rename_i t j st'
      obtain ⟨hc, h⟩ := sy_cond h
      split at h
      · rename_i a j2 hR
        obtain ⟨hi, h⟩ := sy_cond h
        have ha := Nat.eq_of_beq_eq_true hi
        subst ha
        show cond _ _ _
        rw [hc]
        exact ⟨j2, (hm.1 _ _).mpr (hm.2.2.1 _ _ _ _ hR), by rw [hm.2.1, hR]; rfl, hr _ _ _ _ _ _ _ _ h _ Q hm hq⟩
      · cases h
    · cases h
  | (16, T, N, _, nx, _), h =>
    dsimp only [sy_step] at h
    split at h
    · obtain ⟨hc, h⟩ := sy_cond h
      obtain ⟨hi, h⟩ := sy_cond h
      show cond _ _ _
      rw [hc]
      exact ⟨of_decide_eq_true hi, hr _ _ _ _ _ _ _ _ h _ Q hm.setZ hq⟩
    · cases h
  | (17, T, T2, N, nx, _), h =>
    dsimp only [sy_step] at h
    split at h
    · obtain ⟨hc, h⟩ := sy_cond h
      obtain ⟨hc2, h⟩ := sy_cond h
      obtain ⟨hi, h⟩ := sy_cond h
      obtain ⟨hn, h⟩ := sy_cond h
      show cond _ (cond _ _ _) _
      rw [hc, hc2]
      exact ⟨of_decide_eq_true hi, hr _ _ _ _ _ _ _ _ h _ Q (hm.setR hn) hq⟩
    · cases h
  | (18, k, _, _, nx, _), h =>
    dsimp only [sy_step] at h
    split at h
    · rename_i t j st' _
      obtain ⟨hc, h⟩ := sy_cond h
      obtain ⟨h1, hc⟩ := sy_and hc
      obtain ⟨h2, hc⟩ := sy_and hc
      obtain ⟨h3, h4⟩ := sy_and hc
      split at h
      · rename_i X2 hX2
        show cond _ (cond _ _ _) _
        rw [h1, h2]
        have e := Nat.eq_of_beq_eq_true h1
        subst e
        refine ⟨⟨Nat.le_of_ble_eq_true h3, Nat.le_of_ble_eq_true h4⟩, mg_ev (sy_ny t).1 (sy_ny t).2.1 (fun _ => sy_ent (sy_ny t).2.2 (hr _ _ _ _ _ _ _ _ hX2 G _ hm (fun G' hm' => fun _ => ?_)))⟩
        exact hr _ _ _ _ _ _ _ _ h G' Q hm' hq
      · cases h
    · cases h
  | (_ + 19, _, _, _, _, _), h => cases h
theorem sy_look_den {m : Nat} {K : mg_K} {Q : mg_G → Prop} {L : mv_L} {st : List mv_V} {G : mg_G} {nc ns : Nat} : ∀ {l : List (Nat × sy_op)} {pc : Nat} {o : sy_op}, sy_look l pc = some o → sy_den m o K Q L st G nc ns → mg_look (l.map (fun x => (x.1, sy_den m x.2))) pc K Q L st G nc ns
  | [], _, _, h, _ => by cases h
  | (q, o') :: r, pc, o, h, hd => by
    show (bif Nat.beq q pc then sy_den m o' else mg_look (r.map _) pc) K Q L st G nc ns
    cases hb : Nat.beq q pc with
    | true =>
      have h : (bif Nat.beq q pc then some o' else sy_look r pc) = some o := h
      rw [hb] at h
      cases h; exact hd
    | false =>
      have h : (bif Nat.beq q pc then some o' else sy_look r pc) = some o := h
      rw [hb] at h
      exact sy_look_den (l := r) h hd
theorem sy_run_good : ∀ f, sy_good (sy_run f)
  | 0 => fun _ _ _ _ _ _ _ _ h => by cases h
  | f + 1 => by
    intro m pc L st X nc ns X' h G Q hm hq
    have h : (match sy_look (sy_t m) pc with
      | none => none
      | some o => sy_step (sy_run f) m L st X nc ns o) = some X' := h
    split at h
    · cases h
    · rename_i o ho
      have hs := sy_look_den (m := m) ho (sy_step_good (sy_run_good f) h hm hq)
      exact mg_run_J (tab := sy_tab m) (cut := []) (sy_ts m) 1 pc L st G nc ns hs
