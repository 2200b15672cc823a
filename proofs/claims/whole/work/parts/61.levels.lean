/-! ===== the class reads an E: its levels ===== -/
def SpC (e : EC) (D : Nat) (sub : Nat → Res) (y : Nat) (args : List Value) : Prop := ∀ (j : Nat) (s : List Nat) (Mn : Nat → Prop) (σ : Hp) (K : Po), SE e j s Mn σ → e.c0 + s.length ≤ j → (∀ j' s' τ, sub j = .ok (j', s') → SE e j' (s ++ s') (fun i => Mn i ∨ men s' i) τ → K (some (.int 1)) τ) → (∀ k jf τ, sub j = .error (k, jf) → FtE e k jf τ → K (some (.int 0)) τ) → CTs D y args σ K
def mkL (b : Nat → Nat) (m lv : Nat) (j : Nat) : Nat := if lv = 0 then mk0 b m j else if lv = 1 then mk1 b m j else mk2 b m j
theorem p_markAt {d : Nat} {K : Po} {σ : Hp} {b : Nat → Nat} {m j lv : Nat} (hlv : lv < 3) (tb : TB b (tk b m j)) (ct : CTk b (tk b m j) σ) (h0 : mkL b m lv j = 0 → K (some (.int 0)) σ) (h1 : mkL b m lv j ≠ 0 → K (some (.int (nI (cwN (mkL b m lv j))))) σ) : CTs (d + 2) y_Sc_markAt [.ref 1, .int (nI lv)] σ K := by
  refine e_Sc_markAt (t_Sc_markAt_0 ?_)
  match lv, hlv with
  | 0, _ =>
    have e0 : mkL b m 0 j = mk0 b m j := rfl
    rw [e0] at h0 h1
    unfold mk0 at h0 h1
    refine ifp rfl (q_isS (c := 60) tb ct (by decide) (fun h => o1 ?_) (fun h => o0 (q_isS (c := 61) tb ct (by decide) (fun h2 => o1 ?_) (fun h2 => o0 ?_))))
    · rw [if_pos h] at h1; exact h1 (by decide)
    · rw [if_neg h, if_pos h2] at h1; exact h1 (by decide)
    · rw [if_neg h, if_neg h2] at h0; exact h0 rfl
  | 1, _ =>
    have e0 : mkL b m 1 j = mk1 b m j := rfl
    rw [e0] at h0 h1
    unfold mk1 at h0 h1
    refine ifn (by decide) (ifp rfl (q_isS (c := 43) tb ct (by decide) (fun h => o1 ?_) (fun h => o0 (q_isS (c := 45) tb ct (by decide) (fun h2 => o1 ?_) (fun h2 => o0 ?_)))))
    · rw [if_pos h] at h1; exact h1 (by decide)
    · rw [if_neg h, if_pos h2] at h1; exact h1 (by decide)
    · rw [if_neg h, if_neg h2] at h0; exact h0 rfl
  | 2, _ =>
    have e0 : mkL b m 2 j = mk2 b m j := rfl
    rw [e0] at h0 h1
    unfold mk2 at h0 h1
    refine ifn (by decide) (ifn (by decide) (q_isS (c := 42) tb ct (by decide) (fun h => o1 ?_) (fun h => o0 (q_isS (c := 47) tb ct (by decide) (fun h2 => o1 ?_) (fun h2 => o0 ?_)))))
    · rw [if_pos h] at h1; exact h1 (by decide)
    · rw [if_neg h, if_pos h2] at h1; exact h1 (by decide)
    · rw [if_neg h, if_neg h2] at h0; exact h0 rfl
theorem mkL_ok {b : Nat → Nat} {m lv j : Nat} (h : mkL b m lv j ≠ 0) : j < m ∧ 300042 ≤ mkL b m lv j ∧ mkL b m lv j ≤ 300061 ∧ cwN (mkL b m lv j) ≠ 0 ∧ cwN (mkL b m lv j) < 16 ∧ ((0 : Int32) <<< ((4 : Int32) &&& 31)) ||| nI (cwN (mkL b m lv j)) = nI (cwN (mkL b m lv j)) := by
  have key : ∀ {c1 c2 x y : Nat} (z : (if isS b (tk b m j) c1 then x else if isS b (tk b m j) c2 then y else 0) ≠ 0), j < m ∧ ((if isS b (tk b m j) c1 then x else if isS b (tk b m j) c2 then y else 0) = x ∨ (if isS b (tk b m j) c1 then x else if isS b (tk b m j) c2 then y else 0) = y) := fun {c1 c2 x y} z => by
    by_cases h1 : isS b (tk b m j) c1
    · exact ⟨isS_m h1, Or.inl (if_pos h1)⟩
    · rw [if_neg h1] at z ⊢
      by_cases h2 : isS b (tk b m j) c2
      · exact ⟨isS_m h2, Or.inr (if_pos h2)⟩
      · rw [if_neg h2] at z; exact absurd rfl z
  unfold mkL at h ⊢
  by_cases e0 : lv = 0
  · rw [if_pos e0] at h ⊢
    unfold mk0 at h ⊢
    obtain ⟨k1, k2 | k2⟩ := key h
    · rw [k2]; exact ⟨k1, by decide, by decide, by decide, by decide, by decide⟩
    · rw [k2]; exact ⟨k1, by decide, by decide, by decide, by decide, by decide⟩
  · rw [if_neg e0] at h ⊢
    by_cases e1 : lv = 1
    · rw [if_pos e1] at h ⊢
      unfold mk1 at h ⊢
      obtain ⟨k1, k2 | k2⟩ := key h
      · rw [k2]; exact ⟨k1, by decide, by decide, by decide, by decide, by decide⟩
      · rw [k2]; exact ⟨k1, by decide, by decide, by decide, by decide, by decide⟩
    · rw [if_neg e1] at h ⊢
      unfold mk2 at h ⊢
      obtain ⟨k1, k2 | k2⟩ := key h
      · rw [k2]; exact ⟨k1, by decide, by decide, by decide, by decide, by decide⟩
      · rw [k2]; exact ⟨k1, by decide, by decide, by decide, by decide, by decide⟩
theorem men_app {s s' : List Nat} {i : Nat} : men (s ++ s') i ↔ men s i ∨ men s' i := by
  unfold men
  rw [List.mem_append, List.mem_append]
  constructor
  · intro h
    rcases h with (h | h) | (h | h)
    · exact Or.inl (Or.inl h)
    · exact Or.inr (Or.inl h)
    · exact Or.inl (Or.inr h)
    · exact Or.inr (Or.inr h)
  · intro h
    rcases h with (h | h) | (h | h)
    · exact Or.inl (Or.inl h)
    · exact Or.inr (Or.inl h)
    · exact Or.inl (Or.inr h)
    · exact Or.inr (Or.inr h)
theorem men_no {x i : Nat} (hi : i < 16) (h : x < 100000 ∨ 200016 ≤ x) : ¬ men [x] i := by
  intro z
  rcases z with z | z
  · rw [List.mem_singleton] at z; omega
  · rw [List.mem_singleton] at z; omega
theorem lpC {e : EC} (o : EOk e) {D lv most : Nat} {op : Int32} {sub : Nat → Res} (hlv : lv < 3) (hsub : SpC e (D + 3) sub y_Sc_joins [.ref 1, .int (nI (lv + 1)), .int op]) (gd : Gd e.m sub) (hmost : most ≤ 300) {K : Po} {s : List Nat} {Mn : Nat → Prop} : ∀ (c k j : Nat) (s1 : List Nat) (σ : Hp), k + c = most → SE e j (s ++ s1) (fun i => Mn i ∨ men s1 i) σ → e.c0 + (s ++ s1).length ≤ j → (∀ j' s' τ, lp (mkL e.b e.m lv) sub c j s1 = .ok (j', s') → SE e j' (s ++ s') (fun i => Mn i ∨ men s' i) τ → K (some (.int 1)) τ) → (∀ k jf τ, lp (mkL e.b e.m lv) sub c j s1 = .error (k, jf) → FtE e k jf τ → K (some (.int 0)) τ) → WP c_Sc_joins (CTs (D + 3)) K (39, [(0, .ref 1), (1, .int (nI lv)), (2, .int op), (3, .int (nI most)), (4, .int (nI k))], []) σ := by
  intro c
  induction c with
  | zero =>
    intro k j s1 σ hk c hb hok her
    exact t_Sc_joins_39 (ifp (nI_le (a := most) (b := k) (by omega) (by omega)) ⟨vb1, hok j s1 σ rfl c⟩)
  | succ n ih =>
    intro k j s1 σ hk c hb hok her
    refine t_Sc_joins_39 (ifn (nI_ge (by omega) (by omega)) ?_)
    refine p_markAt hlv (o.TB j) c.1 (fun h => o0 ?_) (fun h => ?_)
    · refine ⟨vb1, hok j s1 σ ?_ c⟩
      unfold lp
      rw [if_pos h]
    · obtain ⟨hj, -, h61, hc0, hc16, hcode⟩ := mkL_ok h
      have h3 := (mkL_ok h).2.1
      have hm := o.1
      have hlp : lp (mkL e.b e.m lv) sub (n + 1) j s1 = match sub (j + 1) with
        | .error x => .error x
        | .ok (j', s') => lp (mkL e.b e.m lv) sub n j' (s1 ++ s' ++ [mkL e.b e.m lv j]) := if_neg h
      rw [hlp] at hok her
      refine ifn (fun z => hc0 ((nI_eq (b := 0) (by omega) (by omega)).mp z)) ?_
      refine p_nx (o.tp c.2.2.2.2.2) c.1 (fun τ f ct => ?_)
      rw [nI_1]
      refine hsub (j + 1) (s ++ s1) (fun i => Mn i ∨ men s1 i) τ _ (c.S f ct) (by omega) (fun j1 s2 τ2 hs c2 => o1 ?_) (fun k2 jf τ2 hs c2 => o0 ⟨vb0, ?_⟩)
      · obtain ⟨g1, g2, g3, g4⟩ := gd _ _ _ hs
        rw [hs] at hok her
        have hl : (s ++ s1 ++ s2).length = (s ++ s1).length + s2.length := List.length_append
        refine p_addE (x := mkL e.b e.m lv j) c2 (by omega) hcode (fun τ3 c3 => ?_)
        rw [nI_1]
        have e1 : s ++ s1 ++ s2 ++ [mkL e.b e.m lv j] = s ++ (s1 ++ s2 ++ [mkL e.b e.m lv j]) := by simp only [List.append_assoc]
        rw [e1] at c3
        have hl2 : (s ++ (s1 ++ s2 ++ [mkL e.b e.m lv j])).length = (s ++ s1 ++ s2).length + 1 := by rw [← e1, List.length_append]; rfl
        refine ih (k + 1) j1 (s1 ++ s2 ++ [mkL e.b e.m lv j]) τ3 (by omega) (c3.mn (fun i hi => ?_)) (by omega) hok her
        rw [men_app, men_app]
        have := men_no (x := mkL e.b e.m lv j) hi (Or.inr (by omega))
        constructor
        · intro z
          rcases z with (z | z) | z
          · exact Or.inl z
          · exact Or.inr (Or.inl (Or.inl z))
          · exact Or.inr (Or.inl (Or.inr z))
        · intro z
          rcases z with z | ((z | z) | z)
          · exact Or.inl (Or.inl z)
          · exact Or.inl (Or.inr z)
          · exact Or.inr z
          · exact absurd z this
      · rw [hs] at her
        exact her k2 jf τ2 rfl c2
theorem lvlC {e : EC} (o : EOk e) {D lv : Nat} {op : Int32} {sub : Nat → Res} (hlv : lv < 3) (hsub : SpC e (D + 3) sub y_Sc_joins [.ref 1, .int (nI (lv + 1)), .int op]) (gd : Gd e.m sub) : SpC e (D + 4) (lvl (mkL e.b e.m lv) sub (if lv = 0 then 1 else 300)) y_Sc_joins [.ref 1, .int (nI lv), .int op] := by
  intro j s Mn σ K c hb hok her
  refine e_Sc_joins (t_Sc_joins_0 (ifp (nI_le (a := lv) (b := 2) (by omega) (by omega)) ?_))
  rw [nI_1]
  have hm := o.1
  unfold lvl at hok her
  refine hsub j s Mn σ _ c hb (fun j1 s1 τ hs c1 => o1 ?_) (fun k jf τ hs f => o0 ⟨vb0, ?_⟩)
  · obtain ⟨g1, g2, g3, g4⟩ := gd _ _ _ hs
    rw [hs] at hok her
    have hl : (s ++ s1).length = s.length + s1.length := List.length_append
    by_cases h0 : lv = 0
    · rw [if_pos h0] at hok her
      exact ifp (by rw [h0]; rfl) (lpC o (most := 1) hlv hsub gd (by omega) 1 0 j1 s1 τ (by omega) c1 (by omega) hok her)
    · rw [if_neg h0] at hok her
      exact ifn (fun z => h0 ((nI_eq (b := 0) (by omega) (by omega)).mp z)) (lpC o (most := 300) hlv hsub gd (by omega) 300 0 j1 s1 τ (by omega) c1 (by omega) hok her)
  · rw [hs] at her
    exact her k jf τ rfl f
