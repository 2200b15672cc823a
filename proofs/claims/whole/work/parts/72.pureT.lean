/-! ===== what a text is read into ===== -/
abbrev RcT : Type := Nat × Nat × Nat × Nat × Option Nat × Option Nat × Nat × List Nat × List (Nat × Nat)
abbrev RcT.kd (r : RcT) : Nat := r.1
abbrev RcT.nm (r : RcT) : Nat := r.2.1
abbrev RcT.lg (r : RcT) : Nat := r.2.2.1
abbrev RcT.fi (r : RcT) : Nat := r.2.2.2.1
abbrev RcT.fr (r : RcT) : Option Nat := r.2.2.2.2.1
abbrev RcT.to (r : RcT) : Option Nat := r.2.2.2.2.2.1
abbrev RcT.c (r : RcT) : Nat := r.2.2.2.2.2.2.1
abbrev RcT.s (r : RcT) : List Nat := r.2.2.2.2.2.2.2.1
abbrev RcT.cs (r : RcT) : List (Nat × Nat) := r.2.2.2.2.2.2.2.2
abbrev Rho : Type := Nat → RcT
def fdR (ρ : Rho) (n x : Nat) : Option Nat := fnd (fun i => nI (ρ i).nm) (nI x) n 0
def tbR (ρ : Rho) (i : Nat) : Bool := (ρ i).kd == 4
def pEnd (b : Nat → Nat) (m : Nat) (ρ : Rho) (n j : Nat) : Except (Nat × Nat) (Option Nat) :=
  if isK b (tk b m j) 11522 then .ok none
  else if isNm b (tk b m j) then (match fdR ρ n (wv b (tk b m j)) with
    | none => .error (2, j)
    | some i => if (ρ i).kd = 1 then .ok (some i) else .error (3, j))
  else .error (1, j)
def pCor (b : Nat → Nat) (m k la j : Nat) : Except (Nat × Nat) (Nat × Nat) :=
  if isNu b (tk b m j) 0 99999 then (if 0 < k ∧ dv b (tk b m j) ≤ la then .error (3, j)
    else if isS b (tk b m (j + 1)) 58 then (if isNu b (tk b m (j + 2)) 0 99999 then .ok (dv b (tk b m j), dv b (tk b m (j + 2))) else .error (1, j + 2)) else .error (1, j + 1))
  else .error (1, j)
def laC (cs : List (Nat × Nat)) : Nat := (cs.getD (cs.length - 1) (0, 0)).1
/-- corners from the one that stands at j on; cs are those ahead -/
def pCors (b : Nat → Nat) (m : Nat) : Nat → List (Nat × Nat) → Nat → Except (Nat × Nat) (Nat × List (Nat × Nat))
  | 0, cs, j => .ok (j, cs)
  | f + 1, cs, j => match pCor b m cs.length (laC cs) j with
    | .error e => .error e
    | .ok x => if isS b (tk b m (j + 3)) 44 then (if cs.length = 5 then .error (1, j + 3) else pCors b m f (cs ++ [x]) (j + 4))
      else if 0 < cs.length then .ok (j + 3, cs ++ [x]) else .error (1, j + 3)
/-- what stands behind the = : the next token, first, signs, corners -/
def pBody (b : Nat → Nat) (m : Nat) (ρ : Rho) (n kd j : Nat) : Except (Nat × Nat) (Nat × Nat × List Nat × List (Nat × Nat)) :=
  if kd = 1 ∨ kd = 5 then (if isNu b (tk b m j) 0 99999 then .ok (j + 1, dv b (tk b m j), [], []) else .error (1, j))
  else if kd = 2 then (if isNu b (tk b m j) 1 9 then (if isK b (tk b m (j + 1)) 411 then (match pExp b m (pOne b m (fdR ρ n) (tbR ρ) 4) (j + 2) with
      | .error e => .error e
      | .ok (j', s) => .ok (j', dv b (tk b m j), s, [])) else .error (1, j + 1)) else .error (1, j))
  else if kd = 4 then (match pCors b m 6 [] j with
      | .error e => .error e
      | .ok (j', cs) => .ok (j', 0, [], cs))
  else (match pExp b m (pOne b m (fdR ρ n) (tbR ρ) 4) j with
      | .error e => .error e
      | .ok (j', s) => .ok (j', 0, s, []))
/-- from the = on -/
def pTail (b : Nat → Nat) (m : Nat) (ρ : Rho) (n c kd nm lg : Nat) (fr to : Option Nat) (j : Nat) : Except (Nat × Nat) (Nat × RcT) :=
  if isS b (tk b m j) 61 then (match pBody b m ρ n kd (j + 1) with
    | .error e => .error e
    | .ok (j', fi, s, cs) => if isS b (tk b m j') 59 then .ok (j' + 1, (kd, nm, lg, fi, fr, to, c, s, cs)) else .error (1, j'))
  else .error (1, j)
def pEnds (b : Nat → Nat) (m : Nat) (ρ : Rho) (n j : Nat) : Except (Nat × Nat) (Option Nat × Option Nat) :=
  if isK b (tk b m j) 131638 then (match pEnd b m ρ n (j + 1) with
    | .error e => .error e
    | .ok fr => if isK b (tk b m (j + 2)) 555 then (match pEnd b m ρ n (j + 3) with
      | .error e => .error e
      | .ok to => .ok (fr, to)) else .error (1, j + 2))
  else .error (1, j)
def pThing (b : Nat → Nat) (m : Nat) (ρ : Rho) (n c j : Nat) : Except (Nat × Nat) (Nat × RcT) :=
  if kdT b (tk b m j) = 0 then .error (1, j)
  else if isNm b (tk b m (j + 1)) then (match fdR ρ n (wv b (tk b m (j + 1))) with
    | some _ => .error (2, j + 1)
    | none => if kdT b (tk b m j) = 3 then (match pEnds b m ρ n (j + 2) with
        | .error e => .error e
        | .ok (fr, to) => pTail b m ρ n c 3 (wv b (tk b m (j + 1))) ((tk b m (j + 1)).2.2 - (tk b m (j + 1)).2.1) fr to (j + 6))
      else pTail b m ρ n c (kdT b (tk b m j)) (wv b (tk b m (j + 1))) ((tk b m (j + 1)).2.2 - (tk b m (j + 1)).2.1) none none (j + 2))
  else .error (1, j + 1)
def updR (ρ : Rho) (n : Nat) (r : RcT) : Rho := fun i => if i = n then r else ρ i
/-- all things; f more may come -/
def pAll (b : Nat → Nat) (m : Nat) : Nat → Rho → Nat → Nat → Nat → Except (Nat × Nat) (Nat × Rho × Nat)
  | 0, ρ, n, c, j => if (tk b m j).1 = 0 then .ok (n, ρ, c) else .error (1, j)
  | f + 1, ρ, n, c, j => if (tk b m j).1 = 0 then .ok (n, ρ, c) else match pThing b m ρ n c j with
    | .error e => .error e
    | .ok (j', r) => pAll b m f (updR ρ n r) (n + 1) (c + r.s.length) j'
/-! what holds of it -/
def endV (ρ : Rho) (b kd : Nat) (e : Option Nat) : Prop := e = none ∨ kd = 3 ∧ ∃ i, i < b ∧ e = some i ∧ (ρ i).kd = 1
def corV (cs : List (Nat × Nat)) : Prop := (∀ k, k < cs.length → (cs.getD k (0, 0)).1 ≤ 99999 ∧ (cs.getD k (0, 0)).2 ≤ 99999) ∧ ∀ k, k + 1 < cs.length → (cs.getD k (0, 0)).1 < (cs.getD (k + 1) (0, 0)).1
def VR (ρ : Rho) (b : Nat) (r : RcT) : Prop :=
  (1 ≤ r.kd ∧ r.kd ≤ 6) ∧ (1 ≤ r.lg ∧ r.lg ≤ 5 ∧ 27 ^ (r.lg - 1) ≤ r.nm ∧ r.nm < 27 ^ r.lg) ∧ endV ρ b r.kd r.fr ∧ endV ρ b r.kd r.to ∧ r.c + r.s.length ≤ 300 ∧ (∀ x ∈ r.s, x < 400002) ∧ ((r.kd = 2 ∨ r.kd = 3 ∨ r.kd = 6) → ∀ th : Nat → Int32, (∀ t, t < b → (ρ t).kd = 4 → th (20 * t) = 4) → hgl th b r.s 0 = some 1) ∧ (∀ i, i < 16 → men r.s i → i < b) ∧ (r.kd = 2 → 1 ≤ r.fi ∧ r.fi ≤ 9) ∧ (r.kd = 1 ∨ r.kd = 5 → r.fi ≤ 99999) ∧ (r.kd = 4 → 2 ≤ r.cs.length ∧ r.cs.length ≤ 6 ∧ corV r.cs)
/-- n things stand, c signs, the token at hand is j -/
def VL (ρ : Rho) (n c j : Nat) : Prop := n ≤ 16 ∧ c ≤ j ∧ (∀ i, i < n → VR ρ i (ρ i) ∧ (ρ i).c + (ρ i).s.length ≤ c ∧ fdR ρ n (ρ i).nm = some i) ∧ ∀ k, k < c → ∃ i, i < n ∧ (ρ i).c ≤ k ∧ k < (ρ i).c + (ρ i).s.length
theorem fdR_lt {ρ : Rho} {n x i : Nat} (h : fdR ρ n x = some i) : i < n ∧ nI (ρ i).nm = nI x := by
  obtain ⟨-, h2, h3⟩ := fnd_lt n 0 i h
  exact ⟨by omega, h3⟩
