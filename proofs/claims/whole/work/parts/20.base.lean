/-! ===== the pure layer: what both programs work out, and how their cells stand to each other ===== -/
theorem ifp {c A B : Prop} [Decidable c] (h : c) (k : A) : (if c then A else B) := by rw [if_pos h]; exact k
theorem ifn {c A B : Prop} [Decidable c] (h : ¬ c) (k : B) : (if c then A else B) := by rw [if_neg h]; exact k
theorem o1 {A B : Prop} (k : B) : (if oI (some (.int (1 : Int32))) = 0 then A else B) := ifn (by decide) k
theorem o0 {A B : Prop} (k : A) : (if oI (some (.int (0 : Int32))) = 0 then A else B) := ifp rfl k
theorem ite2 {c A B : Prop} [Decidable c] (k1 : c → A) (k2 : ¬ c → B) : (if c then A else B) := by
  by_cases h : c
  · exact ifp h (k1 h)
  · exact ifn h (k2 h)
theorem vb0 : vb 0 := Or.inl rfl
theorem vb1 : vb 1 := Or.inr rfl
theorem sI_r {σ : Hp} {c k : Nat} {v : Int32} {a : Nat} : (sI σ c k v).1 a = if a = c then upd (σ.1 c) k v else σ.1 a := by
  unfold sI
  dsimp only
  by_cases h : a = c
  · rw [if_pos h, if_pos h, h]
  · rw [if_neg h, if_neg h]
theorem sI_l {σ : Hp} {c k : Nat} {v : Int32} : (sI σ c k v).2 = σ.2 := rfl
theorem sL_r {σ : Hp} {c k : Nat} {v : Int64} : (sL σ c k v).1 = σ.1 := rfl
theorem sL_l {σ : Hp} {c k : Nat} {v : Int64} {a : Nat} : (sL σ c k v).2 a = if a = c then vp_updL (σ.2 c) k v else σ.2 a := by
  unfold sL
  dsimp only
  by_cases h : a = c
  · rw [if_pos h, if_pos h, h]
  · rw [if_neg h, if_neg h]
theorem sC_r {σ : Hp} {c : Nat} {f : Nat → Int32} {a : Nat} : (sC σ c f).1 a = if a = c then f else σ.1 a := rfl
theorem sC_l {σ : Hp} {c : Nat} {f : Nat → Int32} : (sC σ c f).2 = σ.2 := rfl
theorem upd_r {f : Nat → Int32} {k j : Nat} {v : Int32} : upd f k v j = if j = k then v else f j := by
  by_cases h : j = k
  · rw [h, pk_us, if_pos rfl]
  · rw [pk_un h, if_neg h]
theorem updL_r {f : Nat → Int64} {k j : Nat} {v : Int64} : vp_updL f k v j = if j = k then v else f j := by
  by_cases h : j = k
  · rw [h, pk_uLs, if_pos rfl]
  · rw [pk_uLn h, if_neg h]
/-- the cell behind an index that is not one -/
def nIx (a : Int32) (n : Nat) : Prop := a < 0 ∨ nI n ≤ a
theorem ixc (a : Int32) {n : Nat} (h : n < 2 ^ 31) : nIx a n ∨ ∃ j, j < n ∧ a = nI j := by
  rcases pk_ix a h with h | h | h
  · exact Or.inl (Or.inl h)
  · exact Or.inl (Or.inr h)
  · exact Or.inr h
/-! ===== what a text is worked out to ===== -/
def sN (x : Int32) : Nat := x.toNatClampNeg
/-- what a table has at x; th: the things' row -/
def lkB (th : Nat → Int32) (at0 : Nat) (x : Int32) : Nat → Nat → Int32
  | 0, _ => 0
  | 1, k => th (at0 + 2 * k - 1)
  | n + 2, k => if x < th (at0 + 2 * k) then th (at0 + 2 * k - 1) + ((th (at0 + 2 * k + 1) - th (at0 + 2 * k - 1)).toInt64 * (x - th (at0 + 2 * k - 2)).toInt64 / (th (at0 + 2 * k) - th (at0 + 2 * k - 2)).toInt64).toInt32 else lkB th at0 x (n + 1) (k + 1)
def lk (th : Nat → Int32) (t : Nat) (x : Int32) : Int32 := if x ≤ th (20 * t + 8) then th (20 * t + 9) else lkB th (20 * t + 8) x (sN (th (20 * t + 3))) 1
def j2 (s : Nat) (x y : Int32) : Int32 := if s = 43 then x + y else if s = 45 then x - y else if s = 42 then x * y else if s = 47 then (if y = 0 then 0 else x / y) else if s = 60 then (if x < y then 1 else 0) else (if x = y then 1 else 0)
def ev1 (th V : Nat → Int32) (s : Nat) (l : List Int32) : List Int32 :=
  if s < 100000 then nI s :: l
  else if s < 200000 then V (s - 100000) :: l
  else if s < 300000 then (match l with | x :: l => lk th (s - 200000) x :: l | [] => [])
  else if s = 400001 then (match l with | x :: l => (0 - x) :: l | [] => [])
  else (match l with | y :: x :: l => (if s = 400000 then (if x < y then x else y) else j2 (s - 300000) x y) :: l | _ => [])
def evs (th sg V : Nat → Int32) : Nat → Nat → List Int32 → List Int32
  | 0, _, l => l
  | c + 1, k, l => evs th sg V c (k + 1) (ev1 th V (sN (sg k)) l)
def wrk (th sg V : Nat → Int32) (i : Nat) : Int32 := (evs th sg V (sN (th (20 * i + 7)) - sN (th (20 * i + 6))) (sN (th (20 * i + 6))) []).headD 0
def val1 (th sg am mem : Nat → Int32) (now : Nat) (V : Nat → Int32) (i : Nat) : Int32 :=
  if th (20 * i) = 1 ∨ th (20 * i) = 5 then am i
  else if th (20 * i) = 6 then wrk th sg V i
  else if th (20 * i) = 3 then (if wrk th sg V i < 0 then 0 else wrk th sg V i)
  else if th (20 * i) = 2 then (if now < sN (th (20 * i + 3)) then 0 else mem (10 * i + (now - sN (th (20 * i + 3))) % 10))
  else 0
def vto (th sg am mem : Nat → Int32) (now : Nat) : Nat → Nat → Int32
  | 0 => fun _ => 0
  | k + 1 => upd (vto th sg am mem now k) k (val1 th sg am mem now (vto th sg am mem now k) k)
def sm : Nat → (Nat → Int64) → Int64
  | 0, _ => 0
  | k + 1, f => sm k f + f k
def allS (n : Nat) (th V : Nat → Int32) (s : Int32) : Int64 := sm n (fun k => if th (20 * k) = 3 ∧ th (20 * k + 4) = s then (V k).toInt64 else 0)
def fl1 (n : Nat) (th V : Nat → Int32) (i : Nat) : Int32 :=
  if th (20 * i + 4) < 0 then V i
  else if (V (sN (th (20 * i + 4)))).toInt64 < allS n th V (th (20 * i + 4)) then ((V i).toInt64 * (V (sN (th (20 * i + 4)))).toInt64 / allS n th V (th (20 * i + 4))).toInt32 else V i
/-- one step: what goes in and out of the store s; what comes and goes of all -/
def goes (n : Nat) (th V : Nat → Int32) (s : Nat) : Int64 := sm n (fun k => if th (20 * k) = 3 then (if th (20 * k + 5) = nI s then (fl1 n th V k).toInt64 else 0) - (if th (20 * k + 4) = nI s then (fl1 n th V k).toInt64 else 0) else 0)
def cameS (n : Nat) (th V : Nat → Int32) (at4 : Nat) : Int64 := sm n (fun k => if th (20 * k) = 3 ∧ th (20 * k + at4) < 0 then (fl1 n th V k).toInt64 else 0)
def lev (n : Nat) (th am V : Nat → Int32) (i : Nat) : Int64 := (am i).toInt64 + goes n th V i
def evIn (ev : Nat → Int32) (now : Nat) : Nat → (Nat → Int32) → Nat → Int32
  | 0, am => am
  | e + 1, am => if ev (3 * e) = nI now then upd (evIn ev now e am) (sN (ev (3 * e + 1))) (ev (3 * e + 2)) else evIn ev now e am
def poured (n : Nat) (th am V : Nat → Int32) (i : Nat) : Int32 := if i < n ∧ th (20 * i) = 1 then (if 999999 < lev n th am V i then 999999 else lev n th am V i).toInt32 else am i
/-- what moves what, as bits -/
def mvB (sg : Nat → Int32) (i : Nat) (bit : Int32) : Nat → Nat → Int32 → Int32
  | 0, _, x => x
  | c + 1, k, x => mvB sg i bit c (k + 1) (x ||| (if sg k = nI (100000 + i) ∨ sg k = nI (200000 + i) then bit else 0))
def mvT (th sg : Nat → Int32) (i : Nat) : Nat → Int32 → Int32
  | 0, x => x
  | b + 1, x => mvB sg i (1 <<< nI b) (sN (th (20 * b + 7)) - sN (th (20 * b + 6))) (sN (th (20 * b + 6))) (mvT th sg i b x)
def mvE (e : Int32) : Int32 := if 0 ≤ e then 1 <<< e else 0
def mvd (n : Nat) (th sg : Nat → Int32) (i : Nat) : Int32 := mvT th sg i n (if th (20 * i) = 3 then mvE (th (20 * i + 4)) ||| mvE (th (20 * i + 5)) else 0)
/-! ===== when a text is whole ===== -/
def hg1 (th : Nat → Int32) (i s h : Nat) : Option Nat :=
  if s < 100000 then (if h < 32 then some (h + 1) else none)
  else if s < 200000 then (if s - 100000 < i ∧ h < 32 then some (h + 1) else none)
  else if s < 300000 then (if s - 200000 < i ∧ th (20 * (s - 200000)) = 4 ∧ 0 < h then some h else none)
  else if s = 400001 then (if 0 < h then some h else none)
  else if (s = 400000 ∨ s = 300042 ∨ s = 300043 ∨ s = 300045 ∨ s = 300047 ∨ s = 300060 ∨ s = 300061) ∧ 1 < h then some (h - 1) else none
def hgs (th sg : Nat → Int32) (i : Nat) : Nat → Nat → Nat → Option Nat
  | 0, _, h => some h
  | c + 1, k, h => (hg1 th i (sN (sg k)) h).bind (hgs th sg i c (k + 1))
def endO (th : Nat → Int32) (i : Nat) (e : Int32) : Prop := e = -9 ∨ th (20 * i) = 3 ∧ ∃ j, j < i ∧ e = nI j ∧ th (20 * j) = 1
def TW1 (th sg : Nat → Int32) (i : Nat) : Prop :=
  (∃ k, 1 ≤ k ∧ k ≤ 6 ∧ th (20 * i) = nI k) ∧
  (∃ L nm, 1 ≤ L ∧ L ≤ 5 ∧ 27 ^ (L - 1) ≤ nm ∧ nm < 27 ^ L ∧ th (20 * i + 2) = nI L ∧ th (20 * i + 1) = nI nm) ∧
  endO th i (th (20 * i + 4)) ∧ endO th i (th (20 * i + 5)) ∧
  (∃ a b, a ≤ b ∧ b ≤ 300 ∧ th (20 * i + 6) = nI a ∧ th (20 * i + 7) = nI b ∧ (∀ k, a ≤ k → k < b → ∃ s, s < 400002 ∧ sg k = nI s) ∧ ((th (20 * i) = 2 ∨ th (20 * i) = 3 ∨ th (20 * i) = 6) → hgs th sg i (b - a) a 0 = some 1)) ∧
  (th (20 * i) = 2 → ∃ N, 1 ≤ N ∧ N ≤ 9 ∧ th (20 * i + 3) = nI N) ∧
  ((th (20 * i) = 1 ∨ th (20 * i) = 5) → ∃ f, f ≤ 99999 ∧ th (20 * i + 3) = nI f) ∧
  (th (20 * i) = 4 → ∃ c, 2 ≤ c ∧ c ≤ 6 ∧ th (20 * i + 3) = nI c ∧ ∃ at0 : Nat → Nat, (∀ k, k < c → at0 k ≤ 99999 ∧ th (20 * i + 8 + 2 * k) = nI (at0 k)) ∧ (∀ k, k + 1 < c → at0 k < at0 (k + 1)) ∧ ∀ k, k < c → ∃ v, v ≤ 99999 ∧ th (20 * i + 9 + 2 * k) = nI v)
def TW (n : Nat) (th sg : Nat → Int32) : Prop := n ≤ 16 ∧ ∀ i, i < n → TW1 th sg i
/-! ===== the class's text ===== -/
def cwN (s : Nat) : Nat :=
  if s < 100000 then 16 * s
  else if s < 200000 then 16 * (s - 100000) + 1
  else if s < 300000 then 16 * (s - 200000) + 3
  else if s = 400001 then 2 else if s = 400000 then 10 else if s = 300043 then 4 else if s = 300045 then 5 else if s = 300042 then 6 else if s = 300047 then 7 else if s = 300060 then 8 else 9
def CX1 (n : Nat) (th sg : Nat → Int32) (T : Nat → Nat → Int32) (i : Nat) : Prop :=
  T 1 i = th (20 * i) ∧ T 2 i = th (20 * i + 1) ∧ T 4 i = th (20 * i + 4) ∧ T 5 i = th (20 * i + 5) ∧ T 6 i = th (20 * i + 6) ∧ T 7 i = th (20 * i + 7) ∧ T 8 i = mvd n th sg i ∧
  (th (20 * i) ≠ 4 → T 3 i = th (20 * i + 3)) ∧
  (th (20 * i) = 4 → T 9 i = th (20 * i + 3) ∧ ∀ k, k < sN (th (20 * i + 3)) → T 10 (6 * i + k) = th (20 * i + 8 + 2 * k) ∧ T 11 (6 * i + k) = th (20 * i + 9 + 2 * k))
def CX (n : Nat) (th sg : Nat → Int32) (T : Nat → Nat → Int32) : Prop :=
  T 0 0 = nI n ∧ (∀ i, i < n → CX1 n th sg T i) ∧ ∃ z, z ≤ 300 ∧ T 0 1 = nI z ∧ (∀ i, i < n → sN (th (20 * i + 7)) ≤ z) ∧ ∀ k, k < z → T 12 k = nI (cwN (sN (sg k)))
/-! ===== the worlds ===== -/
/-- of the model's world: stores are from 0 to 999999, events are of numbers -/
def MW (n : Nat) (th am : Nat → Int32) (ne : Nat) (ev : Nat → Int32) : Prop :=
  (∀ i, i < n → th (20 * i) = 1 → ∃ a, a ≤ 999999 ∧ am i = nI a) ∧ ne ≤ 6 ∧ ∀ e, e < ne → ∃ j, j < n ∧ ev (3 * e + 1) = nI j ∧ th (20 * j) = 5
/-- the class's world W (its longs WL) against the model's -/
def CW (n : Nat) (th sg am mem : Nat → Int32) (now : Nat) (ne : Nat) (ev : Nat → Int32) (W : Nat → Nat → Int32) : Prop :=
  W 0 0 = nI now ∧ W 0 4 = nI ne ∧ (∀ e, e < ne → W 1 e = ev (3 * e) ∧ W 2 e = ev (3 * e + 1) ∧ W 3 e = ev (3 * e + 2)) ∧
  (∀ i, i < n → (th (20 * i) = 1 ∨ th (20 * i) = 5) → W 4 i = am i) ∧
  (∀ i, i < n → W 5 i = vto th sg am mem now n i) ∧
  (∀ i, i < n → th (20 * i) = 3 → W 6 i = fl1 n th (vto th sg am mem now n) i) ∧
  (∀ i, i < n → th (20 * i) = 2 → W 7 i = wrk th sg (vto th sg am mem now n) i) ∧
  (∀ i, i < n → th (20 * i) = 2 → ∀ s, s < now → now ≤ s + sN (th (20 * i + 3)) → W 8 (9 * i + s % sN (th (20 * i + 3))) = mem (10 * i + s % 10))
def CWL (sp ca we : Int64) (WL : Nat → Int64) : Prop := WL 1 = sp ∧ WL 2 = ca ∧ WL 3 = we
def PST (n now : Nat) (pa P : Nat → Int32) : Prop := ∀ s i, s < now → i < n → P (16 * s + i) = pa (16 * s + i)
def CORE (n : Nat) (th sg am mem : Nat → Int32) (now ne : Nat) (ev pa : Nat → Int32) (T W : Nat → Nat → Int32) (P : Nat → Int32) : Prop :=
  TW n th sg ∧ CX n th sg T ∧ MW n th am ne ev ∧ CW n th sg am mem now ne ev W ∧ PST n now pa P ∧ now ≤ 60
/-! ===== the relation ===== -/
def RTape (f m : Int32) (c d : Nat → Int32) : Prop := ∃ k, k ≤ 300 ∧ f = nI k ∧ m = nI k ∧ ∀ j, j < k → c j = d j ∧ ∃ b, b < 256 ∧ d j = nI b
def RRow (f m : Int32) (c d : Nat → Int32) : Prop := ∃ k, k ≤ 61 ∧ f = nI k ∧ m = nI k ∧ ∀ j, j < 122 → c j = d j
def RSheet (so si it : Nat → Int32) (so' si' : Nat → Int32) (it' : Nat → Int64) : Prop := (∀ s, s < 4 → so s = so' s ∧ (so' s = -1 ∨ ∃ k, k < 4 ∧ so' s = nI k) ∧ si s = si' s ∧ ∃ z, z ≤ 40 ∧ si' s = nI z) ∧ ∀ k, k < 160 → it' k = (it k).toInt64
def RShelf (h u z h' u' z' : Nat → Int32) : Prop := ∀ s, s < 4 → (h s = 0 ∧ h' s = -1) ∨ (h s = 1 ∧ h' s = 0 ∧ u s = u' s) ∨ (h s = 2 ∧ h' s = 1 ∧ u s = u' s ∧ z s = z' s ∧ ∃ k, k < 4 ∧ u' s = nI k)
def RDo (f m : Int32) (c d : Nat → Int32) : Prop := ∃ k, k ≤ 30 ∧ f = nI k ∧ m = nI k ∧ ∀ j, j < k → c j = d j
def RKept (σ : Hp) : Prop := σ.1 0 6 = σ.1 98 56 ∧ (σ.1 98 56 = 0 ∨ σ.1 98 56 = 1 ∧ ∃ n now ne, σ.1 126 0 = nI n ∧ σ.1 126 1 = nI now ∧ σ.1 126 2 = nI ne ∧
  CORE n (fun k => σ.1 126 (3 + k)) (fun k => σ.1 126 (323 + k)) (fun k => σ.1 126 (623 + k)) (fun k => σ.1 126 (639 + k)) now ne (fun k => σ.1 126 (799 + k)) (fun k => σ.1 126 (817 + k)) (fun j => σ.1 (31 + j)) (fun j => σ.1 (67 + j)) (σ.1 80) ∧ CWL (σ.2 98 59) (σ.2 98 60) (σ.2 98 61) (σ.2 67))
def RCore (σ : Hp) (n now ne : Nat) : Prop := σ.1 98 0 = nI n ∧ σ.1 98 19 = nI now ∧ σ.1 98 25 = nI ne ∧
  CORE n (σ.1 99) (σ.1 100) (σ.1 105) (σ.1 106) now ne (σ.1 107) (σ.1 108) (fun j => σ.1 (3 + j)) (fun j => σ.1 (45 + j)) (σ.1 78) ∧ CWL (σ.2 98 22) (σ.2 98 23) (σ.2 98 24) (σ.2 45)
def RRest (σ : Hp) : Prop := RTape (σ.1 1 1) (σ.1 98 4) (σ.1 2) (σ.1 101) ∧ (σ.1 1 2 = σ.1 98 10 ∧ σ.1 1 3 = σ.1 98 11) ∧ RRow (σ.1 0 10) (σ.1 98 43) (σ.1 81) (σ.1 118) ∧ RSheet (σ.1 82) (σ.1 83) (σ.1 84) (σ.1 119) (σ.1 120) (σ.2 121) ∧
  RShelf (σ.1 85) (σ.1 86) (σ.1 87) (σ.1 122) (σ.1 123) (σ.1 124) ∧ RDo (σ.1 88 3) (σ.1 98 54) (σ.1 89) (σ.1 125)
def Rel (σ : Hp) : Prop := (∃ n now ne, RCore σ n now ne) ∧ RRest σ ∧ RKept σ
