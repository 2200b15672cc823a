/-! ===== the reference reads an E: as the rules read it ===== -/
theorem lp_prop {mk : Nat → Nat} {sub : Nat → Res} {Pp : Nat → Prop} (hs : ∀ j j' s, sub j = .ok (j', s) → Pp j') : ∀ c j s j' s', Pp j → lp mk sub c j s = .ok (j', s') → Pp j' := by
  intro c
  induction c with
  | zero =>
    intro j s j' s' hp h
    injection h with h
    injection h with h1 h2
    rw [← h1]; exact hp
  | succ c ih =>
    intro j s j' s' hp h
    unfold lp at h
    by_cases e : mk j = 0
    · rw [if_pos e] at h
      injection h with h
      injection h with h1 h2
      rw [← h1]; exact hp
    · rw [if_neg e] at h
      cases hsub : sub (j + 1) with
      | error x => rw [hsub] at h; cases h
      | ok p =>
        obtain ⟨j1, s1⟩ := p
        rw [hsub] at h
        exact ih j1 _ j' s' (hs _ _ _ hsub) h
theorem lvl_prop {mk : Nat → Nat} {sub : Nat → Res} {Pp : Nat → Prop} (hs : ∀ j j' s, sub j = .ok (j', s) → Pp j') {c j j' : Nat} {s' : List Nat} (h : lvl mk sub c j = .ok (j', s')) : Pp j' := by
  unfold lvl at h
  cases hsub : sub j with
  | error x => rw [hsub] at h; cases h
  | ok p =>
    obtain ⟨j1, s1⟩ := p
    rw [hsub] at h
    exact lp_prop hs c j1 s1 j' s' (hs _ _ _ hsub) h
theorem lp_end {m : Nat} {mk : Nat → Nat} {sub : Nat → Res} (hmk : ∀ j, mk j ≠ 0 → j < m) (gd : Gd m sub) : ∀ c j s j' s', m ≤ j + c → lp mk sub c j s = .ok (j', s') → mk j' = 0 := by
  intro c
  induction c with
  | zero =>
    intro j s j' s' hp h
    injection h with h
    injection h with h1 h2
    rw [← h1]
    by_cases e : mk j = 0
    · exact e
    · have := hmk j e; omega
  | succ c ih =>
    intro j s j' s' hp h
    unfold lp at h
    by_cases e : mk j = 0
    · rw [if_pos e] at h
      injection h with h
      injection h with h1 h2
      rw [← h1]; exact e
    · rw [if_neg e] at h
      cases hsub : sub (j + 1) with
      | error x => rw [hsub] at h; cases h
      | ok p =>
        obtain ⟨j1, s1⟩ := p
        rw [hsub] at h
        have := (gd _ _ _ hsub).1
        exact ih j1 _ j' s' (by omega) h
theorem lvl_end {m : Nat} {mk : Nat → Nat} {sub : Nat → Res} (hmk : ∀ j, mk j ≠ 0 → j < m) (gd : Gd m sub) (hm : m ≤ 300) {j j' : Nat} {s' : List Nat} (h : lvl mk sub 300 j = .ok (j', s')) : mk j' = 0 := by
  unfold lvl at h
  cases hsub : sub j with
  | error x => rw [hsub] at h; cases h
  | ok p =>
    obtain ⟨j1, s1⟩ := p
    rw [hsub] at h
    exact lp_end hmk gd 300 j1 s1 j' s' (by omega) h
theorem mk_c {b : Nat → Nat} {m j c1 c2 : Nat} (h : (if isS b (tk b m j) c1 then 300000 + c1 else if isS b (tk b m j) c2 then 300000 + c2 else 0) ≠ 0) : ∃ c, (c = c1 ∨ c = c2) ∧ (if isS b (tk b m j) c1 then 300000 + c1 else if isS b (tk b m j) c2 then 300000 + c2 else 0) = 300000 + c ∧ isS b (tk b m j) c := by
  by_cases h1 : isS b (tk b m j) c1
  · exact ⟨c1, Or.inl rfl, if_pos h1, h1⟩
  · rw [if_neg h1] at h ⊢
    by_cases h2 : isS b (tk b m j) c2
    · exact ⟨c2, Or.inr rfl, if_pos h2, h2⟩
    · rw [if_neg h2] at h; exact absurd rfl h
theorem mk2_c {b : Nat → Nat} {m j : Nat} (h : mk2 b m j ≠ 0) : ∃ c, c < 256 ∧ mk2 b m j = 300000 + c ∧ isS b (tk b m j) c ∧ bdN (300000 + c) = 3 := by
  obtain ⟨c, hc, h1, h2⟩ := mk_c (c1 := 42) (c2 := 47) h
  rcases hc with rfl | rfl
  · exact ⟨_, by decide, h1, h2, by decide⟩
  · exact ⟨_, by decide, h1, h2, by decide⟩
theorem mk1_c {b : Nat → Nat} {m j : Nat} (h : mk1 b m j ≠ 0) : ∃ c, c < 256 ∧ mk1 b m j = 300000 + c ∧ isS b (tk b m j) c ∧ bdN (300000 + c) = 2 := by
  obtain ⟨c, hc, h1, h2⟩ := mk_c (c1 := 43) (c2 := 45) h
  rcases hc with rfl | rfl
  · exact ⟨_, by decide, h1, h2, by decide⟩
  · exact ⟨_, by decide, h1, h2, by decide⟩
theorem mk0_c {b : Nat → Nat} {m j : Nat} (h : mk0 b m j ≠ 0) : ∃ c, (c = 60 ∨ c = 61) ∧ mk0 b m j = 300000 + c ∧ isS b (tk b m j) c := mk_c (c1 := 60) (c2 := 61) h
theorem pTerm_end {b : Nat → Nat} {m : Nat} {one : Nat → Res} (hm : m ≤ 300) (gd : Gd m one) {j j' : Nat} {s : List Nat} (h : pTerm b m one j = .ok (j', s)) : mk2 b m j' = 0 := lvl_end (fun j hj => by obtain ⟨c, -, -, z, -⟩ := mk2_c hj; exact isS_m z) gd hm h
theorem pSum_end {b : Nat → Nat} {m : Nat} {one : Nat → Res} (hm : m ≤ 300) (gd : Gd m one) {j j' : Nat} {s : List Nat} (h : pSum b m one j = .ok (j', s)) : mk2 b m j' = 0 ∧ mk1 b m j' = 0 := ⟨lvl_prop (fun j j' s h => pTerm_end hm gd h) h, lvl_end (fun j hj => by obtain ⟨c, -, -, z, -⟩ := mk1_c hj; exact isS_m z) (pExp_Gd gd).1 hm h⟩
theorem pExp_end {b : Nat → Nat} {m : Nat} {one : Nat → Res} (hm : m ≤ 300) (gd : Gd m one) {j j' : Nat} {s : List Nat} (h : pExp b m one j = .ok (j', s)) : mk2 b m j' = 0 ∧ mk1 b m j' = 0 := lvl_prop (Pp := fun j' => mk2 b m j' = 0 ∧ mk1 b m j' = 0) (fun j j' s h => pSum_end hm gd h) h
def SpM (e : EC) (Q : Po) (v : Nat) (sub : Nat → Res) (o : Nat) : Prop := ∀ (j : Nat) (B E : List Nat), e.c0 + E.length + B.length ≤ j → j ≤ e.m → bdN (B.headD 0) < v → ¬ B.headD 0 = 400001 → B.headD 0 < 2 ^ 31 → (∀ j' s X S, sub j = .ok (j', s) → X ++ S = E ++ s → (∀ x ∈ S, v ≤ bdN x) → GG e Q 0 j' (S ++ B) X o) → (∀ k jf, sub j = .error (k, jf) → FF e Q k jf) → GG e Q 1 j B E o
theorem app_len {X S E s : List Nat} (h : X ++ S = E ++ s) : X.length + S.length = E.length + s.length := by
  have := congrArg List.length h
  rw [List.length_append, List.length_append] at this
  exact this
theorem lvlM {e : EC} {Q : Po} (k : MOk e) {v o : Nat} {mk : Nat → Nat} {sub : Nat → Res} (hv : v = 2 ∨ v = 3) (hmk : ∀ j, mk j ≠ 0 → ∃ c, c < 256 ∧ mk j = 300000 + c ∧ isS e.b (tk e.b e.m j) c ∧ bdN (300000 + c) = v) (hsub : SpM e Q (v + 1) sub o) (gd : Gd e.m sub) : SpM e Q v (lvl mk sub 300) o := by
  intro j B E hb hjm hB hT hB2 hok her
  have loop : ∀ c j1 s1 X S, X ++ S = E ++ s1 → (∀ x ∈ S, v ≤ bdN x) → e.c0 + E.length + s1.length + B.length ≤ j1 → j1 ≤ e.m → (∀ j' s' X S, lp mk sub c j1 s1 = .ok (j', s') → X ++ S = E ++ s' → (∀ x ∈ S, v ≤ bdN x) → GG e Q 0 j' (S ++ B) X o) → (∀ k jf, lp mk sub c j1 s1 = .error (k, jf) → FF e Q k jf) → GG e Q 0 j1 (S ++ B) X o := by
    intro c
    induction c with
    | zero =>
      intro j1 s1 X S hX hS h1 h2 ok er
      exact ok j1 s1 X S rfl hX hS
    | succ c ih =>
      intro j1 s1 X S hX hS h1 h2 ok er
      by_cases hz : mk j1 = 0
      · exact ok j1 s1 X S (if_pos hz) hX hS
      · obtain ⟨ch, hc1, hc2, hc3, hc4⟩ := hmk j1 hz
        have hl := app_len hX
        have hj1 := isS_m hc3
        have hlp : lp mk sub (c + 1) j1 s1 = match sub (j1 + 1) with
          | .error x => .error x
          | .ok (j', s') => lp mk sub c j' (s1 ++ s' ++ [mk j1]) := if_neg hz
        rw [hlp, hc2] at ok er
        refine sOp k hc4 hv hc1 (by omega) hc3 hS hB hB2 ?_
        rw [hX]
        refine hsub (j1 + 1) ((300000 + ch) :: B) (E ++ s1) ?_ (by omega) ?_ ?_ ?_ (fun j2 s2 X2 S2 hs2 hX2 hS2 => ?_) (fun k jf hs2 => er k jf (by rw [hs2]))
        · rw [List.length_append]
          show e.c0 + (E.length + s1.length) + (B.length + 1) ≤ j1 + 1
          omega
        · show bdN (300000 + ch) < v + 1
          omega
        · show ¬ 300000 + ch = 400001
          omega
        · show 300000 + ch < 2 ^ 31
          omega
        · obtain ⟨g1, g2, g3, g4⟩ := gd _ _ _ hs2
          rw [hs2] at ok er
          have e1 : S2 ++ (300000 + ch) :: B = S2 ++ [300000 + ch] ++ B := by simp only [List.append_assoc, List.cons_append, List.nil_append]
          rw [e1]
          refine ih j2 (s1 ++ s2 ++ [300000 + ch]) X2 (S2 ++ [300000 + ch]) ?_ (fun x hx => ?_) ?_ g2 ok er
          · rw [← List.append_assoc, hX2]
            simp only [List.append_assoc]
          · rcases List.mem_append.mp hx with hx | hx
            · have := hS2 x hx; omega
            · rw [List.mem_singleton] at hx; rw [hx]; omega
          · rw [List.length_append, List.length_append]
            show e.c0 + E.length + (s1.length + s2.length + 1) + B.length ≤ j2
            omega
  refine hsub j B E hb hjm (by omega) hT hB2 (fun j1 s1 X S hs hX hS => ?_) (fun k jf hs => her k jf (by unfold lvl; rw [hs]))
  obtain ⟨g1, g2, g3, g4⟩ := gd _ _ _ hs
  refine loop 300 j1 s1 X S hX (fun x hx => by have := hS x hx; omega) (by omega) g2 (fun j' s' X S h => hok j' s' X S ?_) (fun k jf h => her k jf ?_)
  · unfold lvl; rw [hs]; exact h
  · unfold lvl; rw [hs]; exact h
def SpE (e : EC) (Q : Po) (sub : Nat → Res) (o : Nat) : Prop := ∀ (j : Nat) (B E : List Nat), e.c0 + E.length + B.length ≤ j → j ≤ e.m → bdN (B.headD 0) = 0 → ¬ B.headD 0 = 400001 → B.headD 0 < 2 ^ 31 → (∀ j' s X S, sub j = .ok (j', s) → X ++ S = E ++ s → (∀ x ∈ S, 1 ≤ bdN x) → (mk2 e.b e.m j' = 0 ∧ mk1 e.b e.m j' = 0) → (mk0 e.b e.m j' = 0 ∨ ∃ S2 y, S = S2 ++ [y] ∧ bdN y = 1 ∧ y < 400000 ∧ ∀ x ∈ S2, 2 ≤ bdN x) → e.c0 + X.length + S.length + B.length ≤ j' → j < j' → j' ≤ e.m → GG e Q 0 j' (S ++ B) X o) → (∀ k jf, sub j = .error (k, jf) → FF e Q k jf) → GG e Q 1 j B E o
theorem expM {e : EC} {Q : Po} (k : MOk e) {o : Nat} {one : Nat → Res} (hsum : SpM e Q 2 (pSum e.b e.m one) o) (gd : Gd e.m one) : SpE e Q (pExp e.b e.m one) o := by
  intro j B E hb hjm hB hT hB2 hok her
  have gs := (pExp_Gd (b := e.b) gd).2.1
  have hm := k.1
  refine hsum j B E hb hjm (by omega) hT hB2 (fun j1 s1 X S hs hX hS => ?_) (fun k jf hs => her k jf (by unfold pExp lvl; rw [hs]))
  obtain ⟨g1, g2, g3, g4⟩ := gs _ _ _ hs
  have hl := app_len hX
  have hEx : pExp e.b e.m one j = lp (mk0 e.b e.m) (pSum e.b e.m one) 1 j1 s1 := by unfold pExp lvl; rw [hs]
  by_cases h0 : mk0 e.b e.m j1 = 0
  · refine hok j1 s1 X S (hEx.trans (if_pos h0)) hX (fun x hx => by have := hS x hx; omega) (pSum_end hm gd hs) (Or.inl h0) (by omega) g1 g2
  · obtain ⟨ch, hc1, hc2, hc3⟩ := mk0_c h0
    have hj1 := isS_m hc3
    have hcb : bdN (300000 + ch) = 1 := by
      rcases hc1 with z | z
      · rw [z]; rfl
      · rw [z]; rfl
    have hlp : lp (mk0 e.b e.m) (pSum e.b e.m one) 1 j1 s1 = match pSum e.b e.m one (j1 + 1) with
          | .error x => .error x
          | .ok (j', s') => lp (mk0 e.b e.m) (pSum e.b e.m one) 0 j' (s1 ++ s' ++ [mk0 e.b e.m j1]) := if_neg h0
    rw [hEx, hlp, hc2] at hok her
    refine sCmp k hc1 (by omega) hc3 hS (by omega) hB2 (fun _ => ?_) (fun z => absurd z (by omega))
    rw [hX]
    refine hsum (j1 + 1) ((300000 + ch) :: B) (E ++ s1) ?_ (by omega) ?_ ?_ ?_ (fun j2 s2 X2 S2 hs2 hX2 hS2 => ?_) (fun k jf hs2 => her k jf (by rw [hs2]))
    · rw [List.length_append]
      show e.c0 + (E.length + s1.length) + (B.length + 1) ≤ j1 + 1
      omega
    · show bdN (300000 + ch) < 2
      omega
    · show ¬ 300000 + ch = 400001
      omega
    · show 300000 + ch < 2 ^ 31
      omega
    · obtain ⟨k1, k2, k3, k4⟩ := gs _ _ _ hs2
      have hl2 := app_len hX2
      rw [List.length_append] at hl2
      have e1 : S2 ++ (300000 + ch) :: B = S2 ++ [300000 + ch] ++ B := by simp only [List.append_assoc, List.cons_append, List.nil_append]
      rw [e1]
      refine hok j2 (s1 ++ s2 ++ [300000 + ch]) X2 (S2 ++ [300000 + ch]) (by rw [hs2]; rfl) ?_ (fun x hx => ?_) (pSum_end hm gd hs2) (Or.inr ⟨S2, 300000 + ch, rfl, hcb, by omega, hS2⟩) ?_ (by omega) k2
      · rw [← List.append_assoc, hX2]
        simp only [List.append_assoc]
      · rcases List.mem_append.mp hx with hx | hx
        · have := hS2 x hx; omega
        · rw [List.mem_singleton] at hx; rw [hx]; omega
      · rw [List.length_append]
        show e.c0 + X2.length + (S2.length + 1) + B.length ≤ j2
        omega
theorem mBad {e : EC} {Q : Po} (k : MOk e) {j o : Nat} {S B X : List Nat} (h0 : ¬ mk0 e.b e.m j = 0) (hS : mk0 e.b e.m j = 0 ∨ ∃ S2 y, S = S2 ++ [y] ∧ bdN y = 1 ∧ y < 400000 ∧ ∀ x ∈ S2, 2 ≤ bdN x) (hb : e.c0 + X.length + S.length + B.length ≤ j) (ff : FF e Q 1 j) : GG e Q 0 j (S ++ B) X o := by
  obtain ⟨S2, y, e1, e2, e3, e4⟩ := hS.resolve_left h0
  obtain ⟨ch, hc1, hc2, hc3⟩ := mk0_c h0
  have e5 : S ++ B = S2 ++ (y :: B) := by rw [e1]; simp only [List.append_assoc, List.cons_append, List.nil_append]
  rw [e5]
  rw [e1, List.length_append] at hb
  refine sCmp k hc1 ?_ hc3 e4 (by show bdN y < 2; omega) (by show y < 2 ^ 31; omega) (fun z => ?_) (fun _ => ff)
  · show e.c0 + X.length + S2.length + (B.length + 1) ≤ j
    replace hb : e.c0 + X.length + (S2.length + 1) + B.length ≤ j := hb
    omega
  · replace z : bdN y = 0 := z
    omega
