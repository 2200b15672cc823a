/-! ===== what an E is read into ===== -/
abbrev Res : Type := Except (Nat × Nat) (Nat × List Nat)
def lp (mk : Nat → Nat) (sub : Nat → Res) : Nat → Nat → List Nat → Res
  | 0, j, s => .ok (j, s)
  | c + 1, j, s => if mk j = 0 then .ok (j, s) else match sub (j + 1) with
    | .error e => .error e
    | .ok (j', s') => lp mk sub c j' (s ++ s' ++ [mk j])
def lvl (mk : Nat → Nat) (sub : Nat → Res) (c j : Nat) : Res := match sub j with
  | .error e => .error e
  | .ok (j', s) => lp mk sub c j' s
def mk2 (b : Nat → Nat) (m j : Nat) : Nat := if isS b (tk b m j) 42 then 300042 else if isS b (tk b m j) 47 then 300047 else 0
def mk1 (b : Nat → Nat) (m j : Nat) : Nat := if isS b (tk b m j) 43 then 300043 else if isS b (tk b m j) 45 then 300045 else 0
def mk0 (b : Nat → Nat) (m j : Nat) : Nat := if isS b (tk b m j) 60 then 300060 else if isS b (tk b m j) 61 then 300061 else 0
def pTerm (b : Nat → Nat) (m : Nat) (one : Nat → Res) (j : Nat) : Res := lvl (mk2 b m) one 300 j
def pSum (b : Nat → Nat) (m : Nat) (one : Nat → Res) (j : Nat) : Res := lvl (mk1 b m) (pTerm b m one) 300 j
def pExp (b : Nat → Nat) (m : Nat) (one : Nat → Res) (j : Nat) : Res := lvl (mk0 b m) (pSum b m one) 1 j
def nameF (b : Nat → Nat) (m : Nat) (tb : Nat → Bool) (go : Bool) (E : Nat → Res) (i j : Nat) : Res :=
  if tb i = true then (if isS b (tk b m (j + 1)) 91 ∧ go = true then (match E (j + 2) with
    | .error e => .error e
    | .ok (j', s) => if isS b (tk b m j') 93 then .ok (j' + 1, s ++ [200000 + i]) else .error (1, j')) else .error (1, j + 1)) else .ok (j + 1, [100000 + i])
def brF (b : Nat → Nat) (m : Nat) (E : Nat → Res) (j : Nat) : Res := match E (j + 1) with
  | .error e => .error e
  | .ok (j', s) => if isS b (tk b m j') 41 then .ok (j' + 1, s) else .error (1, j')
def lsF (b : Nat → Nat) (m : Nat) (E : Nat → Res) (j : Nat) : Res :=
  if isS b (tk b m (j + 1)) 40 then (match E (j + 2) with
    | .error e => .error e
    | .ok (j1, s1) => if isS b (tk b m j1) 44 then (match E (j1 + 1) with
      | .error e => .error e
      | .ok (j2, s2) => if isS b (tk b m j2) 41 then .ok (j2 + 1, s1 ++ s2 ++ [400000]) else .error (1, j2)) else .error (1, j1)) else .error (1, j + 1)
def mnF (self : Nat → Res) (j : Nat) : Res := match self (j + 1) with
  | .error e => .error e
  | .ok (j', s) => .ok (j', s ++ [400001])
def oneF (b : Nat → Nat) (m : Nat) (fd : Nat → Option Nat) (tb : Nat → Bool) (go : Bool) (E self : Nat → Res) (j : Nat) : Res :=
  if isNu b (tk b m j) 0 99999 then .ok (j + 1, [dv b (tk b m j)])
  else if isNm b (tk b m j) then (match fd (wv b (tk b m j)) with
    | none => .error (2, j)
    | some i => nameF b m tb go E i j)
  else if go = true then (if isS b (tk b m j) 45 then mnF self j else if isS b (tk b m j) 40 then brF b m E j else if isK b (tk b m j) 6476969 then lsF b m E j else .error (1, j))
  else .error (1, j)
def pOne (b : Nat → Nat) (m : Nat) (fd : Nat → Option Nat) (tb : Nat → Bool) : Nat → Nat → Res
  | 0, j => oneF b m fd tb false (fun _ => .error (0, 0)) (fun _ => .error (0, 0)) j
  | r + 1, j => oneF b m fd tb true (pExp b m (pOne b m fd tb r)) (pOne b m fd tb r) j
/-! it goes on, and each sign has a token -/
def Gd (m : Nat) (sub : Nat → Res) : Prop := ∀ j j' s, sub j = .ok (j', s) → j < j' ∧ j' ≤ m ∧ s.length + j ≤ j' ∧ ∀ x ∈ s, x < 400002
theorem tkm {b : Nat → Nat} {m j : Nat} (h : (tk b m j).1 ≠ 0) : j < m := by
  have := (tk_j (b := b) (m := m) j).1 h
  omega
theorem isS_m {b : Nat → Nat} {m j c : Nat} (h : isS b (tk b m j) c) : j < m := tkm (by rw [h.1]; decide)
theorem lp_Gd {m : Nat} {mk : Nat → Nat} {sub : Nat → Res} (hmk : ∀ j, mk j < 400002) (hs : Gd m sub) : ∀ c j s j' s', lp mk sub c j s = .ok (j', s') → ∃ s2, s' = s ++ s2 ∧ j ≤ j' ∧ (j' = j ∨ j' ≤ m) ∧ s2.length + j ≤ j' ∧ ∀ x ∈ s2, x < 400002 := by
  intro c
  induction c with
  | zero =>
    intro j s j' s' h
    injection h with h
    injection h with h1 h2
    exact ⟨[], by rw [← h2, List.append_nil], by omega, Or.inl h1.symm, by show 0 + j ≤ j'; omega, fun x hx => by cases hx⟩
  | succ c ih =>
    intro j s j' s' h
    unfold lp at h
    by_cases e : mk j = 0
    · rw [if_pos e] at h
      injection h with h
      injection h with h1 h2
      exact ⟨[], by rw [← h2, List.append_nil], by omega, Or.inl h1.symm, by show 0 + j ≤ j'; omega, fun x hx => by cases hx⟩
    · rw [if_neg e] at h
      cases hsub : sub (j + 1) with
      | error x => rw [hsub] at h; cases h
      | ok p =>
        obtain ⟨j1, s1⟩ := p
        rw [hsub] at h
        obtain ⟨g1, g2, g3, g4⟩ := hs _ _ _ hsub
        obtain ⟨s2, e2, h1, h2, h3, h4⟩ := ih j1 (s ++ s1 ++ [mk j]) j' s' h
        refine ⟨s1 ++ [mk j] ++ s2, by rw [e2]; simp only [List.append_assoc], by omega, Or.inr (by omega), by rw [List.length_append, List.length_append]; show s1.length + 1 + s2.length + j ≤ j'; omega, fun x hx => ?_⟩
        rcases List.mem_append.mp hx with hx | hx
        · rcases List.mem_append.mp hx with hx | hx
          · exact g4 x hx
          · rw [List.mem_singleton] at hx; rw [hx]; exact hmk j
        · exact h4 x hx
theorem lvl_Gd {m : Nat} {mk : Nat → Nat} {sub : Nat → Res} {c : Nat} (hmk : ∀ j, mk j < 400002) (hs : Gd m sub) : Gd m (lvl mk sub c) := by
  intro j j' s h
  unfold lvl at h
  cases hsub : sub j with
  | error x => rw [hsub] at h; cases h
  | ok p =>
    obtain ⟨j1, s1⟩ := p
    rw [hsub] at h
    obtain ⟨g1, g2, g3, g4⟩ := hs _ _ _ hsub
    obtain ⟨s2, e2, h1, h2, h3, h4⟩ := lp_Gd hmk hs c j1 s1 j' s h
    refine ⟨by omega, by omega, by rw [e2, List.length_append]; omega, fun x hx => ?_⟩
    rw [e2] at hx
    rcases List.mem_append.mp hx with hx | hx
    · exact g4 x hx
    · exact h4 x hx
theorem mk_lt {b : Nat → Nat} {m : Nat} : (∀ j, mk2 b m j < 400002) ∧ (∀ j, mk1 b m j < 400002) ∧ ∀ j, mk0 b m j < 400002 := by
  refine ⟨fun j => ?_, fun j => ?_, fun j => ?_⟩
  · unfold mk2; split
    · omega
    · split <;> omega
  · unfold mk1; split
    · omega
    · split <;> omega
  · unfold mk0; split
    · omega
    · split <;> omega
theorem pExp_Gd {b : Nat → Nat} {m : Nat} {one : Nat → Res} (h : Gd m one) : Gd m (pTerm b m one) ∧ Gd m (pSum b m one) ∧ Gd m (pExp b m one) := by
  have h1 : Gd m (pTerm b m one) := lvl_Gd mk_lt.1 h
  have h2 : Gd m (pSum b m one) := lvl_Gd mk_lt.2.1 h1
  exact ⟨h1, h2, lvl_Gd mk_lt.2.2 h2⟩
theorem oneF_Gd {b : Nat → Nat} {m : Nat} {fd : Nat → Option Nat} {tb : Nat → Bool} {go : Bool} {E self : Nat → Res} (hm : m ≤ 300) (hb : ∀ k, k < m → b k < 256) (hfd : ∀ x i, fd x = some i → i < 16) (hE : Gd m E) (hself : Gd m self) : Gd m (oneF b m fd tb go E self) := by
  intro j j' s h
  have tb' := tk_TB hm hb j
  unfold oneF at h
  split at h
  · rename_i e
    have := tkm (b := b) (m := m) (j := j) (by rw [e.1]; decide)
    injection h with h
    injection h with h1 h2
    rw [← h2, ← h1]
    refine ⟨by omega, by omega, by show 1 + j ≤ j + 1; omega, fun x hx => ?_⟩
    rw [List.mem_singleton] at hx
    have := e.2.2.2
    omega
  · split at h
    · rename_i e
      have hj := tkm (b := b) (m := m) (j := j) (by rw [e.1]; decide)
      cases hf : fd (wv b (tk b m j)) with
      | none => rw [hf] at h; cases h
      | some i =>
        rw [hf] at h
        have hi := hfd _ _ hf
        replace h : nameF b m tb go E i j = .ok (j', s) := h
        unfold nameF at h
        split at h
        · split at h
          · rename_i e2
            cases hE2 : E (j + 2) with
            | error x => rw [hE2] at h; cases h
            | ok p =>
              obtain ⟨j1, s1⟩ := p
              rw [hE2] at h
              obtain ⟨g1, g2, g3, g4⟩ := hE _ _ _ hE2
              replace h : (if isS b (tk b m j1) 93 then (Except.ok (j1 + 1, s1 ++ [200000 + i]) : Res) else .error (1, j1)) = .ok (j', s) := h
              split at h
              · rename_i e3
                have := isS_m e3
                injection h with h
                injection h with h1 h2
                rw [← h2, ← h1]
                refine ⟨by omega, by omega, by rw [List.length_append]; show s1.length + 1 + j ≤ j1 + 1; omega, fun x hx => ?_⟩
                rcases List.mem_append.mp hx with hx | hx
                · exact g4 x hx
                · rw [List.mem_singleton] at hx; omega
              · cases h
          · cases h
        · injection h with h
          injection h with h1 h2
          rw [← h2, ← h1]
          refine ⟨by omega, by omega, by show 1 + j ≤ j + 1; omega, fun x hx => ?_⟩
          rw [List.mem_singleton] at hx
          omega
    · split at h
      · split at h
        · rename_i e
          have hj := isS_m e
          unfold mnF at h
          cases hs : self (j + 1) with
          | error x => rw [hs] at h; cases h
          | ok p =>
            obtain ⟨j1, s1⟩ := p
            rw [hs] at h
            obtain ⟨g1, g2, g3, g4⟩ := hself _ _ _ hs
            injection h with h
            injection h with h1 h2
            rw [← h2, ← h1]
            refine ⟨by omega, by omega, by rw [List.length_append]; show s1.length + 1 + j ≤ j1; omega, fun x hx => ?_⟩
            rcases List.mem_append.mp hx with hx | hx
            · exact g4 x hx
            · rw [List.mem_singleton] at hx; omega
        · split at h
          · unfold brF at h
            cases hE2 : E (j + 1) with
            | error x => rw [hE2] at h; cases h
            | ok p =>
              obtain ⟨j1, s1⟩ := p
              rw [hE2] at h
              obtain ⟨g1, g2, g3, g4⟩ := hE _ _ _ hE2
              replace h : (if isS b (tk b m j1) 41 then (Except.ok (j1 + 1, s1) : Res) else .error (1, j1)) = .ok (j', s) := h
              split at h
              · rename_i e3
                have := isS_m e3
                injection h with h
                injection h with h1 h2
                rw [← h2, ← h1]
                exact ⟨by omega, by omega, by omega, g4⟩
              · cases h
          · split at h
            · unfold lsF at h
              split at h
              · cases hE2 : E (j + 2) with
                | error x => rw [hE2] at h; cases h
                | ok p =>
                  obtain ⟨j1, s1⟩ := p
                  rw [hE2] at h
                  obtain ⟨g1, g2, g3, g4⟩ := hE _ _ _ hE2
                  replace h : (if isS b (tk b m j1) 44 then (match E (j1 + 1) with
                    | .error e => (.error e : Res)
                    | .ok (j2, s2) => if isS b (tk b m j2) 41 then .ok (j2 + 1, s1 ++ s2 ++ [400000]) else .error (1, j2)) else .error (1, j1)) = .ok (j', s) := h
                  split at h
                  · cases hE3 : E (j1 + 1) with
                    | error x => rw [hE3] at h; cases h
                    | ok p =>
                      obtain ⟨j2, s2⟩ := p
                      rw [hE3] at h
                      obtain ⟨k1, k2, k3, k4⟩ := hE _ _ _ hE3
                      replace h : (if isS b (tk b m j2) 41 then (Except.ok (j2 + 1, s1 ++ s2 ++ [400000]) : Res) else .error (1, j2)) = .ok (j', s) := h
                      split at h
                      · rename_i e3
                        have := isS_m e3
                        injection h with h
                        injection h with h1 h2
                        rw [← h2, ← h1]
                        refine ⟨by omega, by omega, by rw [List.length_append, List.length_append]; show s1.length + s2.length + 1 + j ≤ j2 + 1; omega, fun x hx => ?_⟩
                        rcases List.mem_append.mp hx with hx | hx
                        · rcases List.mem_append.mp hx with hx | hx
                          · exact g4 x hx
                          · exact k4 x hx
                        · rw [List.mem_singleton] at hx; omega
                      · cases h
                  · cases h
              · cases h
            · cases h
      · cases h
theorem pOne_Gd {b : Nat → Nat} {m : Nat} {fd : Nat → Option Nat} {tb : Nat → Bool} (hm : m ≤ 300) (hb : ∀ k, k < m → b k < 256) (hfd : ∀ x i, fd x = some i → i < 16) : ∀ r, Gd m (pOne b m fd tb r)
  | 0 => oneF_Gd hm hb hfd (fun j j' s h => by cases h) (fun j j' s h => by cases h)
  | r + 1 => oneF_Gd hm hb hfd (pExp_Gd (pOne_Gd hm hb hfd r)).2.2 (pOne_Gd hm hb hfd r)
