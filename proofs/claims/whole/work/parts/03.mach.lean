/-! ===== the abstract machine: cells by numbers, ints and longs by cell and place; what an instruction does is a transformer ===== -/
abbrev Hp : Type := (Nat → Nat → Int32) × (Nat → Nat → Int64)
abbrev Lv : Type := List (Nat × Value)
abbrev Fr : Type := Nat × Lv × List Value
abbrev Po : Type := Option Value → Hp → Prop
abbrev Cl : Type := Nat → List Value → Hp → Po → Prop
abbrev Sm : Type := (Fr → Hp → Prop) → Cl → Po → Lv → List Value → Hp → Prop
def sI (σ : Hp) (c k : Nat) (v : Int32) : Hp := (fun a => if a = c then upd (σ.1 a) k v else σ.1 a, σ.2)
def sL (σ : Hp) (c k : Nat) (v : Int64) : Hp := (σ.1, fun a => if a = c then vp_updL (σ.2 a) k v else σ.2 a)
/-- a whole row of ints -/
def sC (σ : Hp) (c : Nat) (f : Nat → Int32) : Hp := (fun a => if a = c then f else σ.1 a, σ.2)
def lget : Lv → Nat → Option Value
  | [], _ => none
  | (j, v) :: t, i => cond (Nat.beq j i) (some v) (lget t i)
def lgo (i : Nat) (q : Nat × Value) : Bool := !(Nat.beq q.1 i) && !(Nat.beq (q.1 + 1) i && Nat.beq q.2.category 2)
def lst1 : Lv → Nat → Value → Lv
  | [], i, v => [(i, v)]
  | (j, w) :: t, i, v => cond (Nat.beq j i) ((i, v) :: t.filter (lgo i)) (cond (lgo i (j, w)) ((j, w) :: lst1 t i v) (lst1 t i v))
def lgo2 (i : Nat) (q : Nat × Value) : Bool := lgo i q && !(Nat.beq q.1 (i + 1))
def lst2 : Lv → Nat → Value → Lv
  | [], i, v => [(i, v)]
  | (j, w) :: t, i, v => cond (Nat.beq j i) ((i, v) :: t.filter (lgo2 i)) (cond (lgo2 i (j, w)) ((j, w) :: lst2 t i v) (lst2 t i v))
def cs (st : List Value) : Nat := (st.map fun v => v.category).sum
def vb (v : Int32) : Prop := v = 0 ∨ v = 1
def oI : Option Value → Int32
  | some (.int v) => v
  | _ => 0
def oL : Option Value → Int64
  | some (.long v) => v
  | _ => 0
/-- what the static rows hold: cell 128 is KEYS, 129 ABOVE -/
def tv (c j : Nat) : Int32 := cond (Nat.beq c 128) (([411, 555, 11522, 131638, 10502465, 10650290, 2232979, 6476969, 283616032, 117696474, 212302449] : List Int32).getD j 0) (([0, 0, 1, 0, 3, 0, 5] : List Int32).getD j 0)
def tn (c : Nat) : Nat := cond (Nat.beq c 128) 11 (cond (Nat.beq c 129) 7 0)
/-- what a cell is: a class (0 to 12), 13 a row of ints, 14 of longs, 15 of things -/
def kd (x : Nat) : Nat := cond (Nat.ble 128 x) 99 (cond (Nat.ble 68 x) (cond (Nat.ble 94 x) (cond (Nat.ble 99 x) (cond (Nat.ble 113 x) (cond (Nat.ble 121 x) (cond (Nat.ble 122 x) 13 14) 13) (cond (Nat.ble 112 x) 14 13)) (cond (Nat.ble 96 x) (cond (Nat.ble 97 x) (cond (Nat.ble 98 x) 12 3) 2) (cond (Nat.ble 95 x) 7 6))) (cond (Nat.ble 89 x) (cond (Nat.ble 91 x) (cond (Nat.ble 92 x) (cond (Nat.ble 93 x) 0 5) 9) (cond (Nat.ble 90 x) 15 13)) (cond (Nat.ble 77 x) (cond (Nat.ble 88 x) 1 13) (cond (Nat.ble 76 x) 14 13)))) (cond (Nat.ble 45 x) (cond (Nat.ble 56 x) (cond (Nat.ble 65 x) (cond (Nat.ble 66 x) (cond (Nat.ble 67 x) 10 13) 14) (cond (Nat.ble 57 x) 13 10)) (cond (Nat.ble 54 x) (cond (Nat.ble 55 x) 13 14) (cond (Nat.ble 46 x) 13 10))) (cond (Nat.ble 4 x) (cond (Nat.ble 18 x) (cond (Nat.ble 31 x) (cond (Nat.ble 32 x) 13 8) 13) (cond (Nat.ble 17 x) 8 13)) (cond (Nat.ble 2 x) (cond (Nat.ble 3 x) 8 13) (cond (Nat.ble 1 x) 4 11)))))
/-- how long a row is -/
def ln (x : Nat) : Nat := cond (Nat.ble 128 x) 0 (cond (Nat.ble 75 x) (cond (Nat.ble 105 x) (cond (Nat.ble 116 x) (cond (Nat.ble 121 x) (cond (Nat.ble 125 x) (cond (Nat.ble 126 x) (cond (Nat.ble 127 x) 3 1800) 30) (cond (Nat.ble 122 x) 4 160)) (cond (Nat.ble 118 x) (cond (Nat.ble 119 x) 4 122) (cond (Nat.ble 117 x) 976 160))) (cond (Nat.ble 109 x) (cond (Nat.ble 114 x) (cond (Nat.ble 115 x) 16 6) (cond (Nat.ble 110 x) 16 300)) (cond (Nat.ble 107 x) (cond (Nat.ble 108 x) 960 18) (cond (Nat.ble 106 x) 160 16)))) (cond (Nat.ble 88 x) (cond (Nat.ble 99 x) (cond (Nat.ble 102 x) (cond (Nat.ble 103 x) 300 320) (cond (Nat.ble 100 x) 300 320)) (cond (Nat.ble 90 x) (cond (Nat.ble 91 x) 0 7) (cond (Nat.ble 89 x) 30 0))) (cond (Nat.ble 81 x) (cond (Nat.ble 84 x) (cond (Nat.ble 85 x) 4 160) (cond (Nat.ble 82 x) 4 122)) (cond (Nat.ble 77 x) (cond (Nat.ble 78 x) 976 32) (cond (Nat.ble 76 x) 16 144))))) (cond (Nat.ble 44 x) (cond (Nat.ble 57 x) (cond (Nat.ble 66 x) (cond (Nat.ble 68 x) (cond (Nat.ble 71 x) 16 6) (cond (Nat.ble 67 x) 0 32)) (cond (Nat.ble 64 x) (cond (Nat.ble 65 x) 16 144) (cond (Nat.ble 60 x) 16 6))) (cond (Nat.ble 53 x) (cond (Nat.ble 55 x) (cond (Nat.ble 56 x) 0 32) (cond (Nat.ble 54 x) 16 144)) (cond (Nat.ble 46 x) (cond (Nat.ble 49 x) 16 6) (cond (Nat.ble 45 x) 0 6)))) (cond (Nat.ble 18 x) (cond (Nat.ble 31 x) (cond (Nat.ble 41 x) (cond (Nat.ble 43 x) 300 96) (cond (Nat.ble 32 x) 16 0)) (cond (Nat.ble 29 x) (cond (Nat.ble 30 x) 6 300) (cond (Nat.ble 27 x) 96 16))) (cond (Nat.ble 13 x) (cond (Nat.ble 16 x) (cond (Nat.ble 17 x) 0 6) (cond (Nat.ble 15 x) 300 96)) (cond (Nat.ble 3 x) (cond (Nat.ble 4 x) 16 0) (cond (Nat.ble 2 x) 300 0))))))
/-- how many fields a class has -/
def nf (x : Nat) : Nat := cond (Nat.ble 13 x) 0 (cond (Nat.ble 8 x) (cond (Nat.ble 10 x) (cond (Nat.ble 11 x) (cond (Nat.ble 12 x) 63 20) 15) (cond (Nat.ble 9 x) 0 17)) (cond (Nat.ble 2 x) (cond (Nat.ble 4 x) (cond (Nat.ble 5 x) 0 10) 0) (cond (Nat.ble 1 x) 5 0)))
/-- what a field is: 0 an int, 1 a long, n + 2 the cell n behind its own -/
def ft1 (x : Nat) : Nat := (cond (Nat.ble 4 x) 3 0)
def ft4 (x : Nat) : Nat := (cond (Nat.ble 4 x) (cond (Nat.ble 5 x) 0 18) (cond (Nat.ble 1 x) 0 3))
def ft8 (x : Nat) : Nat := (cond (Nat.ble 8 x) (cond (Nat.ble 12 x) (cond (Nat.ble 14 x) (cond (Nat.ble 15 x) 0 15) (cond (Nat.ble 13 x) 14 13)) (cond (Nat.ble 10 x) (cond (Nat.ble 11 x) 12 11) (cond (Nat.ble 9 x) 10 9))) (cond (Nat.ble 4 x) (cond (Nat.ble 6 x) (cond (Nat.ble 7 x) 8 7) (cond (Nat.ble 5 x) 6 5)) (cond (Nat.ble 2 x) (cond (Nat.ble 3 x) 4 3) 0)))
def ft10 (x : Nat) : Nat := (cond (Nat.ble 8 x) (cond (Nat.ble 11 x) (cond (Nat.ble 13 x) (cond (Nat.ble 14 x) 12 11) (cond (Nat.ble 12 x) 10 9)) (cond (Nat.ble 9 x) (cond (Nat.ble 10 x) 8 7) 6)) (cond (Nat.ble 5 x) (cond (Nat.ble 6 x) (cond (Nat.ble 7 x) 5 4) 3) (cond (Nat.ble 1 x) (cond (Nat.ble 4 x) 0 1) 0)))
def ft11 (x : Nat) : Nat := (cond (Nat.ble 10 x) (cond (Nat.ble 15 x) (cond (Nat.ble 17 x) (cond (Nat.ble 18 x) (cond (Nat.ble 19 x) 92 90) 89) (cond (Nat.ble 16 x) 88 87)) (cond (Nat.ble 12 x) (cond (Nat.ble 13 x) (cond (Nat.ble 14 x) 86 85) 84) (cond (Nat.ble 11 x) 83 0))) (cond (Nat.ble 5 x) (cond (Nat.ble 7 x) (cond (Nat.ble 8 x) (cond (Nat.ble 9 x) 82 69) 33) (cond (Nat.ble 6 x) 0 81)) (cond (Nat.ble 2 x) (cond (Nat.ble 3 x) (cond (Nat.ble 4 x) 80 58) 47) (cond (Nat.ble 1 x) 5 3))))
def ft12 (x : Nat) : Nat := (cond (Nat.ble 32 x) (cond (Nat.ble 46 x) (cond (Nat.ble 53 x) (cond (Nat.ble 58 x) (cond (Nat.ble 59 x) (cond (Nat.ble 62 x) 31 1) 0) (cond (Nat.ble 54 x) (cond (Nat.ble 57 x) 30 0) 29)) (cond (Nat.ble 48 x) (cond (Nat.ble 49 x) (cond (Nat.ble 50 x) 0 28) 27) (cond (Nat.ble 47 x) 26 25))) (cond (Nat.ble 38 x) (cond (Nat.ble 43 x) (cond (Nat.ble 44 x) (cond (Nat.ble 45 x) 24 23) 0) (cond (Nat.ble 41 x) (cond (Nat.ble 42 x) 22 21) 1)) (cond (Nat.ble 34 x) (cond (Nat.ble 36 x) (cond (Nat.ble 37 x) 20 19) 0) (cond (Nat.ble 33 x) 18 17)))) (cond (Nat.ble 17 x) (cond (Nat.ble 26 x) (cond (Nat.ble 29 x) (cond (Nat.ble 30 x) (cond (Nat.ble 31 x) 16 15) 14) (cond (Nat.ble 27 x) (cond (Nat.ble 28 x) 13 12) 11)) (cond (Nat.ble 21 x) (cond (Nat.ble 22 x) (cond (Nat.ble 25 x) 0 1) 10) (cond (Nat.ble 20 x) 9 0))) (cond (Nat.ble 8 x) (cond (Nat.ble 14 x) (cond (Nat.ble 15 x) (cond (Nat.ble 16 x) 8 7) 0) (cond (Nat.ble 9 x) (cond (Nat.ble 13 x) 6 0) 1)) (cond (Nat.ble 2 x) (cond (Nat.ble 3 x) (cond (Nat.ble 4 x) 0 5) 4) (cond (Nat.ble 1 x) 3 0)))))
def ft (ci k : Nat) : Nat := cond (Nat.beq ci 12) (ft12 k) (cond (Nat.beq ci 11) (ft11 k) (cond (Nat.beq ci 10) (ft10 k) (cond (Nat.beq ci 8) (ft8 k) (cond (Nat.beq ci 4) (ft4 k) (ft1 k)))))
/-! instructions -/
def i_stop : Sm := fun _ _ _ _ _ _ => False
def i_pI (v : Int32) (nx : Nat) : Sm := fun X _ _ lv st σ => X (nx, lv, .int v :: st) σ
def i_pL (v : Int64) (nx : Nat) : Sm := fun X _ _ lv st σ => X (nx, lv, .long v :: st) σ
def i_lI (i nx : Nat) : Sm := fun X _ _ lv st σ => match lget lv i with
  | some (.int v) => X (nx, lv, .int v :: st) σ
  | _ => False
def i_lL (i nx : Nat) : Sm := fun X _ _ lv st σ => match lget lv i with
  | some (.long v) => X (nx, lv, .long v :: st) σ
  | _ => False
def i_lA (i nx : Nat) : Sm := fun X _ _ lv st σ => match lget lv i with
  | some (.ref v) => X (nx, lv, .ref v :: st) σ
  | _ => False
def i_sI (i nx : Nat) : Sm := fun X _ _ lv st σ => match st with
  | .int v :: st => X (nx, lst1 lv i (.int v), st) σ
  | _ => False
def i_sL (i nx : Nat) : Sm := fun X _ _ lv st σ => match st with
  | .long v :: st => X (nx, lst2 lv i (.long v), st) σ
  | _ => False
def i_sA (i nx : Nat) : Sm := fun X _ _ lv st σ => match st with
  | .ref v :: st => X (nx, lst1 lv i (.ref v), st) σ
  | _ => False
def i_inc (i : Nat) (c : Int32) (nx : Nat) : Sm := fun X _ _ lv st σ => match lget lv i with
  | some (.int v) => X (nx, lst1 lv i (.int (v + c)), st) σ
  | _ => False
def i_b (f : Int32 → Int32 → Int32) (nx : Nat) : Sm := fun X _ _ lv st σ => match st with
  | .int y :: .int x :: st => X (nx, lv, .int (f x y) :: st) σ
  | _ => False
def i_bL (f : Int64 → Int64 → Int64) (nx : Nat) : Sm := fun X _ _ lv st σ => match st with
  | .long y :: .long x :: st => X (nx, lv, .long (f x y) :: st) σ
  | _ => False
def i_div (nx : Nat) : Sm := fun X _ _ lv st σ => match st with
  | .int y :: .int x :: st => ¬ y = 0 ∧ X (nx, lv, .int (x / y) :: st) σ
  | _ => False
def i_rem (nx : Nat) : Sm := fun X _ _ lv st σ => match st with
  | .int y :: .int x :: st => ¬ y = 0 ∧ X (nx, lv, .int (x - x / y * y) :: st) σ
  | _ => False
def i_ldiv (nx : Nat) : Sm := fun X _ _ lv st σ => match st with
  | .long y :: .long x :: st => ¬ y = 0 ∧ X (nx, lv, .long (x / y) :: st) σ
  | _ => False
def i_u (f : Int32 → Int32) (nx : Nat) : Sm := fun X _ _ lv st σ => match st with
  | .int x :: st => X (nx, lv, .int (f x) :: st) σ
  | _ => False
def i_uL (f : Int64 → Int64) (nx : Nat) : Sm := fun X _ _ lv st σ => match st with
  | .long x :: st => X (nx, lv, .long (f x) :: st) σ
  | _ => False
def i_i2l (nx : Nat) : Sm := fun X _ _ lv st σ => match st with
  | .int x :: st => X (nx, lv, .long x.toInt64 :: st) σ
  | _ => False
def i_l2i (nx : Nat) : Sm := fun X _ _ lv st σ => match st with
  | .long x :: st => X (nx, lv, .int x.toInt32 :: st) σ
  | _ => False
def i_lsh (f : Int64 → Int32 → Int64) (nx : Nat) : Sm := fun X _ _ lv st σ => match st with
  | .int y :: .long x :: st => X (nx, lv, .long (f x y) :: st) σ
  | _ => False
def i_lcmp (nx : Nat) : Sm := fun X _ _ lv st σ => match st with
  | .long y :: .long x :: st => X (nx, lv, .int (lg_cmp x y) :: st) σ
  | _ => False
def i_dup (nx : Nat) : Sm := fun X _ _ lv st σ => match st with
  | .int x :: st => X (nx, lv, .int x :: .int x :: st) σ
  | .ref x :: st => X (nx, lv, .ref x :: .ref x :: st) σ
  | _ => False
def i_dup2 (nx : Nat) : Sm := fun X _ _ lv st σ => match st with
  | .int y :: .ref x :: st => X (nx, lv, .int y :: .ref x :: .int y :: .ref x :: st) σ
  | _ => False
def i_pop (nx : Nat) : Sm := fun X _ _ lv st σ => match st with
  | .int _ :: st => X (nx, lv, st) σ
  | _ => False
def i_eq (t nx : Nat) : Sm := fun X _ _ lv st σ => match st with
  | .int x :: st => if x = 0 then X (t, lv, st) σ else X (nx, lv, st) σ
  | _ => False
def i_ne (t nx : Nat) : Sm := fun X _ _ lv st σ => match st with
  | .int x :: st => if x = 0 then X (nx, lv, st) σ else X (t, lv, st) σ
  | _ => False
def i_lt (t nx : Nat) : Sm := fun X _ _ lv st σ => match st with
  | .int x :: st => if x < 0 then X (t, lv, st) σ else X (nx, lv, st) σ
  | _ => False
def i_ge (t nx : Nat) : Sm := fun X _ _ lv st σ => match st with
  | .int x :: st => if 0 ≤ x then X (t, lv, st) σ else X (nx, lv, st) σ
  | _ => False
def i_gt (t nx : Nat) : Sm := fun X _ _ lv st σ => match st with
  | .int x :: st => if 0 < x then X (t, lv, st) σ else X (nx, lv, st) σ
  | _ => False
def i_le (t nx : Nat) : Sm := fun X _ _ lv st σ => match st with
  | .int x :: st => if x ≤ 0 then X (t, lv, st) σ else X (nx, lv, st) σ
  | _ => False
def i_ceq (t nx : Nat) : Sm := fun X _ _ lv st σ => match st with
  | .int y :: .int x :: st => if x = y then X (t, lv, st) σ else X (nx, lv, st) σ
  | _ => False
def i_cne (t nx : Nat) : Sm := fun X _ _ lv st σ => match st with
  | .int y :: .int x :: st => if x = y then X (nx, lv, st) σ else X (t, lv, st) σ
  | _ => False
def i_clt (t nx : Nat) : Sm := fun X _ _ lv st σ => match st with
  | .int y :: .int x :: st => if x < y then X (t, lv, st) σ else X (nx, lv, st) σ
  | _ => False
def i_cge (t nx : Nat) : Sm := fun X _ _ lv st σ => match st with
  | .int y :: .int x :: st => if y ≤ x then X (t, lv, st) σ else X (nx, lv, st) σ
  | _ => False
def i_cgt (t nx : Nat) : Sm := fun X _ _ lv st σ => match st with
  | .int y :: .int x :: st => if y < x then X (t, lv, st) σ else X (nx, lv, st) σ
  | _ => False
def i_cle (t nx : Nat) : Sm := fun X _ _ lv st σ => match st with
  | .int y :: .int x :: st => if x ≤ y then X (t, lv, st) σ else X (nx, lv, st) σ
  | _ => False
def i_go (t : Nat) : Sm := fun X _ _ lv st σ => X (t, lv, st) σ
def swc (X : Fr → Hp → Prop) (lv : Lv) (st : List Value) (σ : Hp) (x : Int32) (d : Nat) : List (Int32 × Nat) → Prop
  | [] => X (d, lv, st) σ
  | (v, t) :: l => if x = v then X (t, lv, st) σ else swc X lv st σ x d l
def i_sw (ts : List (Int32 × Nat)) (d : Nat) : Sm := fun X _ _ lv st σ => match st with
  | .int x :: st => swc X lv st σ x d ts
  | _ => False
def i_gI (ci k nx : Nat) : Sm := fun X _ _ lv st σ => match st with
  | .ref c :: st => cond (Nat.beq (kd c) ci) (X (nx, lv, .int (σ.1 c k) :: st) σ) False
  | _ => False
def i_gL (ci k nx : Nat) : Sm := fun X _ _ lv st σ => match st with
  | .ref c :: st => cond (Nat.beq (kd c) ci) (X (nx, lv, .long (σ.2 c k) :: st) σ) False
  | _ => False
def i_gA (ci k o nx : Nat) : Sm := fun X _ _ lv st σ => match st with
  | .ref c :: st => cond (Nat.beq (kd c) ci) (X (nx, lv, .ref (c + o) :: st) σ) False
  | _ => False
def i_fI (ci k nx : Nat) : Sm := fun X _ _ lv st σ => match st with
  | .int v :: .ref c :: st => cond (Nat.beq (kd c) ci) (X (nx, lv, st) (sI σ c k v)) False
  | _ => False
def i_fZ (ci k nx : Nat) : Sm := fun X _ _ lv st σ => match st with
  | .int v :: .ref c :: st => cond (Nat.beq (kd c) ci) (vb v ∧ X (nx, lv, st) (sI σ c k v)) False
  | _ => False
def i_fL (ci k nx : Nat) : Sm := fun X _ _ lv st σ => match st with
  | .long v :: .ref c :: st => cond (Nat.beq (kd c) ci) (X (nx, lv, st) (sL σ c k v)) False
  | _ => False
def i_ald (nx : Nat) : Sm := fun X _ _ lv st σ => match st with
  | .int i :: .ref c :: st => cond (Nat.beq (kd c) 13) (vp_in i (ln c) ∧ X (nx, lv, .int (σ.1 c i.toNatClampNeg) :: st) σ) False
  | _ => False
def i_lald (nx : Nat) : Sm := fun X _ _ lv st σ => match st with
  | .int i :: .ref c :: st => cond (Nat.beq (kd c) 14) (vp_in i (ln c) ∧ X (nx, lv, .long (σ.2 c i.toNatClampNeg) :: st) σ) False
  | _ => False
def i_ast (nx : Nat) : Sm := fun X _ _ lv st σ => match st with
  | .int v :: .int i :: .ref c :: st => cond (Nat.beq (kd c) 13) (vp_in i (ln c) ∧ X (nx, lv, st) (sI σ c i.toNatClampNeg v)) False
  | _ => False
def i_last (nx : Nat) : Sm := fun X _ _ lv st σ => match st with
  | .long v :: .int i :: .ref c :: st => cond (Nat.beq (kd c) 14) (vp_in i (ln c) ∧ X (nx, lv, st) (sL σ c i.toNatClampNeg v)) False
  | _ => False
def i_aln (nx : Nat) : Sm := fun X _ _ lv st σ => match st with
  | .ref c :: st => cond (Nat.beq (kd c) 13) (X (nx, lv, .int (Int32.ofNat (ln c)) :: st) σ) (cond (Nat.beq (kd c) 14) (X (nx, lv, .int (Int32.ofNat (ln c)) :: st) σ) False)
  | _ => False
def i_aald (nx : Nat) : Sm := fun X _ _ lv st σ => match st with
  | .int i :: .ref c :: st => cond (Nat.beq (kd c) 15) (vp_in i (ln c) ∧ X (nx, lv, .ref (91 + i.toNatClampNeg) :: st) σ) False
  | _ => False
def i_gs (c nx : Nat) : Sm := fun X _ _ lv st σ => X (nx, lv, .ref c :: st) σ
def i_tld (c nx : Nat) : Sm := fun X _ _ lv st σ => match st with
  | .int i :: .ref d :: st => cond (Nat.beq d c) (vp_in i (tn c) ∧ X (nx, lv, .int (tv c i.toNatClampNeg) :: st) σ) False
  | _ => False
def i_tln (c nx : Nat) : Sm := fun X _ _ lv st σ => match st with
  | .ref d :: st => cond (Nat.beq d c) (X (nx, lv, .int (Int32.ofNat (tn c)) :: st) σ) False
  | _ => False
def i_mx (nx : Nat) : Sm := fun X _ _ lv st σ => match st with
  | .int y :: .int x :: st => cond (Nat.ble (cs st) 8) (X (nx, lv, .int (if x < y then y else x) :: st) σ) False
  | _ => False
def i_mn (nx : Nat) : Sm := fun X _ _ lv st σ => match st with
  | .int y :: .int x :: st => cond (Nat.ble (cs st) 8) (X (nx, lv, .int (if y < x then y else x) :: st) σ) False
  | _ => False
def i_mabs (nx : Nat) : Sm := fun X _ _ lv st σ => match st with
  | .long x :: st => cond (Nat.ble (cs st) 8) (X (nx, lv, .long (if 0 < x then x else -x) :: st) σ) False
  | _ => False
def i_cpy (nx : Nat) : Sm := fun X _ _ lv st σ => match st with
  | .int n :: .int dp :: .ref d :: .int sp :: .ref a :: st => cond (Nat.ble (cs st) 8 && (Nat.beq (kd a) 13 && (Nat.beq (kd d) 13 && !(Nat.beq a d)))) ((¬ sp < 0 ∧ ¬ dp < 0 ∧ ¬ n < 0 ∧ sp.toNatClampNeg + n.toNatClampNeg ≤ ln a ∧ dp.toNatClampNeg + n.toNatClampNeg ≤ ln d) ∧ X (nx, lv, st) (sC σ d (va_cpy (σ.1 a) (σ.1 d) sp.toNatClampNeg dp.toNatClampNeg n.toNatClampNeg))) False
  | _ => False
/-- the receiver: a cell of a class, one of the seven acting things, or none (a static method) -/
def rk (ci : Nat) (a : List Value) : Bool := match a with
  | .ref c :: _ => Nat.beq (kd c) ci
  | _ => false
def rT (a : List Value) : Bool := match a with
  | .ref c :: _ => Nat.ble 91 c && Nat.ble c 97
  | _ => false
def rS (_ : List Value) : Bool := true
def hdr (a : List Value) : Nat := match a with
  | .ref c :: _ => c
  | _ => 0
def i_cv (r : List Value → Bool) (y n nx : Nat) : Sm := fun X call _ lv st σ => cond (Nat.ble (cs (st.drop n)) 8 && (Nat.beq (st.take n).length n && r (st.take n).reverse)) (call y (st.take n).reverse σ (fun _ τ => X (nx, lv, st.drop n) τ)) False
def i_cI (r : List Value → Bool) (y n nx : Nat) : Sm := fun X call _ lv st σ => cond (Nat.ble (cs (st.drop n)) 8 && (Nat.beq (st.take n).length n && r (st.take n).reverse)) (call y (st.take n).reverse σ (fun r τ => X (nx, lv, .int (oI r) :: st.drop n) τ)) False
def i_cL (r : List Value → Bool) (y n nx : Nat) : Sm := fun X call _ lv st σ => cond (Nat.ble (cs (st.drop n)) 8 && (Nat.beq (st.take n).length n && r (st.take n).reverse)) (call y (st.take n).reverse σ (fun r τ => X (nx, lv, .long (oL r) :: st.drop n) τ)) False
/-- a call of an act: the receiver's cell says which body -/
def i_cD (f : Nat → Nat) (n nx : Nat) : Sm := fun X call _ lv st σ => cond (Nat.ble (cs (st.drop n)) 8 && (Nat.beq (st.take n).length n && rT (st.take n).reverse)) (call (f (hdr (st.take n).reverse)) (st.take n).reverse σ (fun r τ => X (nx, lv, .int (oI r) :: st.drop n) τ)) False
def i_rI : Sm := fun _ _ Q _ st σ => match st with
  | [.int v] => Q (some (.int v)) σ
  | _ => False
def i_rZ : Sm := fun _ _ Q _ st σ => match st with
  | [.int v] => vb v ∧ Q (some (.int v)) σ
  | _ => False
def i_rL : Sm := fun _ _ Q _ st σ => match st with
  | [.long v] => Q (some (.long v)) σ
  | _ => False
def i_rV : Sm := fun _ _ Q _ st σ => match st with
  | [] => Q none σ
  | _ => False
/-- from a frame on: the least that the transformers close -/
def WP (c : Nat → Sm) (call : Cl) (Q : Po) (fr : Fr) (σ : Hp) : Prop := ∀ X : Fr → Hp → Prop, (∀ (pc : Nat) (lv : Lv) (st : List Value) (τ : Hp), c pc X call Q lv st τ → X (pc, lv, st) τ) → (∀ (pc : Nat) (lv lv' : Lv) (st : List Value) (τ : Hp), (∀ q ∈ lv, q ∈ lv') → X (pc, lv, st) τ → X (pc, lv', st) τ) → X fr σ
/-- some steps on, till a cut -/
def wk (c : Nat → Sm) (call : Cl) (Q : Po) (cut : Nat → Bool) (Z : Fr → Hp → Prop) : Nat → Fr → Hp → Prop
  | 0, fr, σ => Z fr σ
  | n + 1, fr, σ => cond (cut fr.1) (Z fr σ) (c fr.1 (wk c call Q cut Z n) call Q fr.2.1 fr.2.2 σ)
def Mono (i : Sm) : Prop := ∀ (X Y : Fr → Hp → Prop) (call call' : Cl) (Q Q' : Po), (∀ fr σ, X fr σ → Y fr σ) → (∀ y a σ K K', (∀ r τ, K r τ → K' r τ) → call y a σ K → call' y a σ K') → (∀ r τ, Q r τ → Q' r τ) → ∀ lv st σ, i X call Q lv st σ → i Y call' Q' lv st σ
def CMono (call : Cl) : Prop := ∀ y a σ (K K' : Po), (∀ r τ, K r τ → K' r τ) → call y a σ K → call y a σ K'
