/-! ===== rings ===== -/
def fst1 : List Nat → Nat
  | [] => 0
  | [x] => x
  | _ :: y :: l => fst1 (y :: l)
def PSt (row : Nat → Int32) : List Nat → Prop
  | [] => True
  | x :: l => row l.length = nI x ∧ PSt row l
theorem PSt.up {row : Nat → Int32} {k : Nat} {v : Int32} : ∀ {l : List Nat}, PSt row l → l.length ≤ k → PSt (upd row k v) l
  | [], _, _ => trivial
  | x :: l, h, hk => by
    have hk' : l.length + 1 ≤ k := hk
    exact ⟨by rw [pk_un (by omega)]; exact h.1, PSt.up h.2 (by omega)⟩
theorem PSt.f {row : Nat → Int32} : ∀ {l : List Nat}, PSt row l → l ≠ [] → row 0 = nI (fst1 l)
  | [], _, h => absurd rfl h
  | [_], h, _ => h.1
  | _ :: y :: l, h, _ => PSt.f (l := y :: l) h.2 (by simp)
theorem PSt.eq {r1 r2 : Nat → Int32} : ∀ {l : List Nat}, PSt r1 l → PSt r2 l → ∀ j, j < l.length → r1 j = r2 j
  | [], _, _, j, hj => absurd hj (by show ¬ j < 0; omega)
  | x :: l, h1, h2, j, hj => by
    have hj' : j < l.length + 1 := hj
    by_cases e : j = l.length
    · rw [e, h1.1, h2.1]
    · exact PSt.eq h1.2 h2.2 j (by omega)
theorem fst1_mem : ∀ {l : List Nat}, l ≠ [] → fst1 l ∈ l
  | [], h => absurd rfl h
  | [x], _ => by simp [fst1]
  | x :: y :: l, _ => List.mem_cons_of_mem x (fst1_mem (l := y :: l) (by simp))
theorem fst1_cons {x : Nat} {l : List Nat} (h : l ≠ []) : fst1 (x :: l) = fst1 l := by
  match l, h with
  | y :: l, _ => rfl
def may (M : Nat → Nat) (l : List Nat) (k : Nat) : Bool := match l with
  | [] => true
  | x :: l' => decide (fst1 (x :: l') < k) && ((M x).testBit k && !((x :: l').contains k))
def own (M : Nat → Nat) (l : List Nat) : List (List Nat) := if (M (l.headD 0)).testBit (fst1 l) = true then [l] else []
def scn (g : Nat → List (List Nat)) (my : Nat → Bool) : Nat → Nat → List (List Nat)
  | 0, _ => []
  | c + 1, k => (if my k = true then g k else []) ++ scn g my c (k + 1)
def rgs (n : Nat) (M : Nat → Nat) : Nat → List Nat → List (List Nat)
  | 0, l => own M l
  | f + 1, l => own M l ++ scn (fun k => rgs n M f (k :: l)) (may M l) n 0
def skL (w : Int32) : Nat → List (List Nat) → Nat × Option (List Nat)
  | s, [] => (s, none)
  | s, r :: t => if nI s = w then (s + 1, some r) else skL w (s + 1) t
theorem skL_app {w : Int32} : ∀ (A B : List (List Nat)) (s : Nat), skL w s (A ++ B) = match (skL w s A) with
    | (s', none) => skL w s' B
    | (s', some r) => (s', some r) := by
  intro A
  induction A with
  | nil => intro B s; rfl
  | cons r A ih =>
    intro B s
    show (if nI s = w then (s + 1, some r) else skL w (s + 1) (A ++ B)) = match (if nI s = w then (s + 1, some r) else skL w (s + 1) A) with
    | (s', none) => skL w s' B
    | (s', some r) => (s', some r)
    by_cases h : nI s = w
    · rw [if_pos h, if_pos h]
    · rw [if_neg h, if_neg h]; exact ih B (s + 1)
theorem skL_n {w : Int32} {A B : List (List Nat)} {s s' : Nat} (h : skL w s A = (s', none)) : skL w s (A ++ B) = skL w s' B := by rw [skL_app, h]
theorem skL_s {w : Int32} {A B : List (List Nat)} {s s' : Nat} {r : List Nat} (h : skL w s A = (s', some r)) : skL w s (A ++ B) = (s', some r) := by rw [skL_app, h]
theorem skL_cases (w : Int32) (s : Nat) (A : List (List Nat)) : (∃ s', skL w s A = (s', none)) ∨ ∃ s' r, skL w s A = (s', some r) := by
  cases h : skL w s A with
  | mk s' o =>
    cases o with
    | none => exact Or.inl ⟨s', rfl⟩
    | some r => exact Or.inr ⟨s', r, rfl⟩
theorem scn_skip {g : Nat → List (List Nat)} {my : Nat → Bool} : ∀ (a c k : Nat), (∀ j, k ≤ j → j < k + a → my j = false) → scn g my (a + c) k = scn g my c (k + a) := by
  intro a
  induction a with
  | zero => intro c k _; rw [Nat.zero_add]; rfl
  | succ a ih =>
    intro c k h
    rw [show a + 1 + c = a + c + 1 by omega]
    show (if my k = true then g k else []) ++ scn g my (a + c) (k + 1) = _
    rw [if_neg (by rw [h k (by omega) (by omega)]; decide), List.nil_append, ih c (k + 1) (fun j h1 h2 => h j (by omega) (by omega)), show k + 1 + a = k + (a + 1) by omega]
/-- what the class needs of its text, and what a search leaves -/
def RC (n : Nat) (M : Nat → Nat) (σ : Hp) : Prop := σ.1 3 0 = nI n ∧ ∀ i, i < n → σ.1 11 i = nI (M i)
def FG (σ τ : Hp) : Prop := τ.2 = σ.2 ∧ (∀ c, c ≠ 3 → c ≠ 16 → τ.1 c = σ.1 c) ∧ ∀ x, x ≠ 15 → x ≠ 16 → τ.1 3 x = σ.1 3 x
theorem FG.rf {σ : Hp} : FG σ σ := ⟨rfl, fun _ _ _ => rfl, fun _ _ _ => rfl⟩
theorem FG.tr {σ τ u : Hp} (h1 : FG σ τ) (h2 : FG τ u) : FG σ u := ⟨h2.1.trans h1.1, fun c a b => (h2.2.1 c a b).trans (h1.2.1 c a b), fun x a b => (h2.2.2 x a b).trans (h1.2.2 x a b)⟩
theorem RC.fr {n : Nat} {M : Nat → Nat} {σ τ : Hp} (h : RC n M σ) (f : FG σ τ) : RC n M τ := ⟨(f.2.2 0 (by decide) (by decide)).trans h.1, fun i hi => by rw [f.2.1 11 (by decide) (by decide)]; exact h.2 i hi⟩
/-- a mask holds just a path's numbers -/
def UM (u : Nat) (l : List Nat) : Prop := u < 2 ^ 16 ∧ ∀ k, u.testBit k = l.contains k
theorem UM.cons {u k : Nat} {l : List Nat} (h : UM u l) (hk : k < 16) : UM (u ||| 2 ^ k) (k :: l) := by
  refine ⟨Nat.or_lt_two_pow h.1 (Nat.pow_lt_pow_right (by omega) hk), fun j => ?_⟩
  rw [Nat.testBit_or, h.2 j, Nat.testBit_two_pow, List.contains_cons]
  by_cases e : k = j
  · rw [e]; simp
  · have : (j == k) = false := by rw [beq_eq_false_iff_ne]; exact fun z => e z.symm
    rw [this, decide_eq_false e, Bool.or_false, Bool.false_or]
set_option maxHeartbeats 2000000 in
theorem p_goOn {n : Nat} {M : Nat → Nat} {w : Int32} (h16 : n ≤ 16) (hM : ∀ i, i < n → M i < 2 ^ 16) : ∀ (f : Nat) (d : Nat) (K : Po) (σ : Hp) (x : Nat) (l : List Nat) (u s : Nat), (x :: l).length + f = 6 → (∀ y ∈ x :: l, y < n) → UM u (x :: l) → RC n M σ → PSt (σ.1 16) (x :: l) → σ.1 3 16 = nI s →
    (∀ s' r τ, skL w s (rgs n M f (x :: l)) = (s', some r) → r.length ≤ 6 → FG σ τ → τ.1 3 16 = nI s' → τ.1 3 15 = nI r.length → PSt (τ.1 16) r → K (some (.int 1)) τ) →
    (∀ s' τ, skL w s (rgs n M f (x :: l)) = (s', none) → FG σ τ → τ.1 3 16 = nI s' → PSt (τ.1 16) (x :: l) → K (some (.int 0)) τ) →
    CTs (d + f + 1) y_Tx_goOn [.ref 3, .int (nI (x :: l).length), .int (nI u), .int w] σ K := by
  intro f
  induction f with
  | zero =>
    intro d K σ x l u s hlen hall hu rc ps hs q1 q0
    have hlen' : l.length + 1 = 6 := hlen
    refine e_Tx_goOn rfl (t_Tx_goOn_0 rfl ?_)
    have hx : x < n := hall x (by simp)
    have hf : fst1 (x :: l) < n := hall _ (fst1_mem (by simp))
    have e0 : σ.1 16 0 = nI (fst1 (x :: l)) := ps.f (by simp)
    have el : nI (x :: l).length - 1 = nI l.length := nI_pred l.length
    have ecl : (nI l.length).toNatClampNeg = l.length := nI_clamp (by omega)
    have z0 : (0 : Int32).toNatClampNeg = 0 := by decide
    have hMx := hM x hx
    have e16 : σ.1 (3 + 13) l.length = nI x := ps.1
    have e160 : σ.1 (3 + 13) 0 = nI (fst1 (x :: l)) := e0
    rw [el, ecl, e16, z0, e160, nI_clamp (n := x) (by omega), show σ.1 (3 + 8) x = nI (M x) from rc.2 x hx, hs, nI_1 s, nI_pred s]
    have h6 : ¬ nI (x :: l).length < 6 := nI_nlt (b := 6) (by show 6 ≤ l.length + 1; omega) (by show l.length + 1 < _; omega)
    refine ⟨vp_in_nI (by omega) (by omega), vp_in_nI (by omega) (by omega), vp_in_nI (n := 0) (by omega) (by omega), ?_⟩
    have hr : rgs n M 0 (x :: l) = if (M x).testBit (fst1 (x :: l)) = true then [x :: l] else [] := rfl
    by_cases hb : (M x).testBit (fst1 (x :: l)) = true
    · rw [if_pos hb] at hr
      rw [hr] at q1 q0
      refine ifn (by rw [bit1 (by omega) (by omega) hb]; decide) ?_
      generalize hS : sI (sI σ 3 15 (nI (x :: l).length)) 3 16 (nI (s + 1)) = S
      have fS : FG σ S := by rw [← hS]; exact ⟨rfl, fun c h1 h2 => by rw [sI_r, if_neg h1, sI_r, if_neg h1], fun y h1 h2 => by rw [sI_r, if_pos rfl, upd_r, if_neg h2, sI_r, if_pos rfl, upd_r, if_neg h1]⟩
      have S16 : S.1 3 16 = nI (s + 1) := by rw [← hS, sI_r, if_pos rfl, pk_us]
      have S15 : S.1 3 15 = nI (x :: l).length := by rw [← hS, sI_r, if_pos rfl, upd_r, if_neg (by decide), sI_r, if_pos rfl, pk_us]
      have SP : PSt (S.1 16) (x :: l) := by rw [← hS, sI_r, if_neg (by decide), sI_r, if_neg (by decide)]; exact ps
      refine ite2 (fun e => ⟨vb1, q1 (s + 1) (x :: l) S ?_ (by omega) fS S16 S15 SP⟩) (fun e => ifn h6 ⟨vb0, q0 (s + 1) S ?_ fS S16 SP⟩)
      · show (if nI s = w then (s + 1, some (x :: l)) else (s + 1, none)) = _
        rw [if_pos e]
      · show (if nI s = w then (s + 1, some (x :: l)) else (s + 1, none)) = _
        rw [if_neg e]
    · rw [if_neg hb] at hr
      rw [hr] at q1 q0
      exact ifp (bit0 (by omega) (by omega) hb) (ifn h6 ⟨vb0, q0 s σ rfl FG.rf hs ps⟩)
  | succ f ihf =>
    intro d K σ x l u s hlen hall hu rc ps hs q1 q0
    have hlen' : l.length + 1 + (f + 1) = 6 := hlen
    refine e_Tx_goOn rfl (t_Tx_goOn_0 rfl ?_)
    have hx : x < n := hall x (by simp)
    have hf : fst1 (x :: l) < n := hall _ (fst1_mem (by simp))
    have e0 : σ.1 16 0 = nI (fst1 (x :: l)) := ps.f (by simp)
    have el : nI (x :: l).length - 1 = nI l.length := nI_pred l.length
    have ecl : (nI l.length).toNatClampNeg = l.length := nI_clamp (by omega)
    have z0 : (0 : Int32).toNatClampNeg = 0 := by decide
    have hMx := hM x hx
    have e16 : σ.1 (3 + 13) l.length = nI x := ps.1
    have e160 : σ.1 (3 + 13) 0 = nI (fst1 (x :: l)) := e0
    rw [el, ecl, e16, z0, e160, nI_clamp (n := x) (by omega), show σ.1 (3 + 8) x = nI (M x) from rc.2 x hx, hs, nI_1 s, nI_pred s, nI_1]
    have h6 : nI (x :: l).length < 6 := nI_lt (b := 6) (by show l.length + 1 < 6; omega) (by omega)
    have hv0 : vp_in (0 : Int32) 6 := vp_in_nI (n := 0) (by omega) (by omega)
    refine ⟨vp_in_nI (by omega) (by omega), vp_in_nI (by omega) (by omega), hv0, ?_⟩
    -- the loop over what comes next
    have loop : ∀ (c k s0 : Nat) (τ : Hp), k + c = n → fst1 (x :: l) < k → FG σ τ → PSt (τ.1 16) (x :: l) → τ.1 3 16 = nI s0 → skL w s (rgs n M (f + 1) (x :: l)) = skL w s0 (scn (fun k => rgs n M f (k :: x :: l)) (may M (x :: l)) c k) → WP c_Tx_goOn (CTs (d + f + 1)) K (74, [(0, .ref 3), (1, .int (nI (x :: l).length)), (2, .int (nI u)), (3, .int w), (4, .int (nI x)), (5, .int (nI k))], []) τ := by
      intro c
      induction c with
      | zero =>
        intro k s0 τ hk hfk fg pt h16' e
        refine t_Tx_goOn_74 rfl ?_
        rw [(rc.fr fg).1]
        exact ifp (nI_le (by omega) (by omega)) ⟨vb0, q0 s0 τ e fg h16' pt⟩
      | succ c ih =>
        intro k s0 τ hk hfk fg pt h16' e
        have e' : skL w s (rgs n M (f + 1) (x :: l)) = skL w s0 ((if may M (x :: l) k = true then rgs n M f (k :: x :: l) else []) ++ scn (fun k => rgs n M f (k :: x :: l)) (may M (x :: l)) c (k + 1)) := e
        have hmay : may M (x :: l) k = ((M x).testBit k && !((x :: l).contains k)) := by
          show (decide (fst1 (x :: l) < k) && ((M x).testBit k && !((x :: l).contains k))) = _
          rw [decide_eq_true hfk, Bool.true_and]
        refine t_Tx_goOn_74 rfl ?_
        rw [(rc.fr fg).1, nI_clamp (n := x) (by omega), show τ.1 (3 + 8) x = nI (M x) from (rc.fr fg).2 x hx, nI_1 k]
        have hu31 : u < 2 ^ 31 := by have := hu.1; omega
        refine ifn (nI_ge (by omega) (by omega)) ⟨vp_in_nI (by omega) (by omega), ?_⟩
        have skip : may M (x :: l) k = false → WP c_Tx_goOn (CTs (d + f + 1)) K (74, [(0, .ref 3), (1, .int (nI (x :: l).length)), (2, .int (nI u)), (3, .int w), (4, .int (nI x)), (5, .int (nI (k + 1)))], []) τ := fun hm => by
          rw [hm, if_neg (by decide), List.nil_append] at e'
          exact ih (k + 1) s0 τ (by omega) (by omega) fg pt h16' e'
        by_cases hb : (M x).testBit k = true
        · refine ifn (by rw [bit1 (by omega) (by omega) hb]; decide) ?_
          by_cases hc : u.testBit k = true
          · refine ifn (by rw [bit1 hu31 (by omega) hc]; decide) (skip ?_)
            rw [hmay, hb, ← hu.2 k, hc]; rfl
          · have hc' : (x :: l).contains k = false := by rw [← hu.2 k]; exact Bool.eq_false_iff.mpr hc
            have hm : may M (x :: l) k = true := by rw [hmay, hb, hc']; rfl
            rw [hm, if_pos rfl] at e'
            refine ifp (bit0 hu31 (by omega) hc) ⟨vp_in_nI (by show l.length + 1 < 6; omega) (by omega), ?_⟩
            have ecl2 : (nI (x :: l).length).toNatClampNeg = (x :: l).length := nI_clamp (by show l.length + 1 < _; omega)
            have hp16 : (2 : Nat) ^ k < 2 ^ 16 := Nat.pow_lt_pow_right (by omega) (by omega)
            have elen : nI (x :: l).length + 1 = nI (k :: x :: l).length := nI_1 (x :: l).length
            rw [ecl2, (sh31 k (by omega)).2.1, or_nI hu31 (by omega), elen]
            generalize hT : sI τ (3 + 13) (x :: l).length (nI k) = T
            have fT : FG τ T := by rw [← hT]; exact ⟨rfl, fun c h1 h2 => by rw [sI_r, if_neg h2], fun y h1 h2 => by rw [sI_r, if_neg (by decide)]⟩
            have T16 : T.1 16 = upd (τ.1 16) (x :: l).length (nI k) := by rw [← hT, sI_r, if_pos rfl]
            have T3 : T.1 3 = τ.1 3 := by rw [← hT, sI_r, if_neg (by decide)]
            refine ihf d _ T k (x :: l) (u ||| 2 ^ k) s0 (by show l.length + 1 + 1 + f = 6; omega) (fun y hy => ?_) (hu.cons (by omega)) ((rc.fr fg).fr fT) ⟨by rw [T16, pk_us], by rw [T16]; exact pt.up (Nat.le_refl _)⟩ (by rw [T3]; exact h16') (fun s' r v ev hr fv v16 v15 pv => ?_) (fun s' v ev fv v16 pv => ?_)
            · rcases List.mem_cons.mp hy with h | h
              · rw [h]; omega
              · exact hall y h
            · refine ifn (by decide) ⟨vb1, q1 s' r v ?_ hr ((fg.tr fT).tr fv) v16 v15 pv⟩
              rw [e', skL_s ev]
            · refine ifp rfl (ih (k + 1) s' v (by omega) (by omega) ((fg.tr fT).tr fv) pv.2 v16 ?_)
              rw [e', skL_n ev]
        · refine ifp (bit0 (by omega) (by omega) hb) (skip ?_)
          rw [hmay, Bool.eq_false_iff.mpr hb]; rfl
    have hr : rgs n M (f + 1) (x :: l) = (if (M x).testBit (fst1 (x :: l)) = true then [x :: l] else []) ++ scn (fun k => rgs n M f (k :: x :: l)) (may M (x :: l)) n 0 := rfl
    have hskip : scn (fun k => rgs n M f (k :: x :: l)) (may M (x :: l)) n 0 = scn (fun k => rgs n M f (k :: x :: l)) (may M (x :: l)) (n - (fst1 (x :: l) + 1)) (fst1 (x :: l) + 1) := by
      have := scn_skip (g := fun k => rgs n M f (k :: x :: l)) (my := may M (x :: l)) (fst1 (x :: l) + 1) (n - (fst1 (x :: l) + 1)) 0 (fun j _ hj => by
        show (decide (fst1 (x :: l) < j) && ((M x).testBit j && !((x :: l).contains j))) = false
        rw [decide_eq_false (by omega), Bool.false_and])
      rw [show fst1 (x :: l) + 1 + (n - (fst1 (x :: l) + 1)) = n by omega, Nat.zero_add] at this
      exact this
    rw [hskip] at hr
    by_cases hb : (M x).testBit (fst1 (x :: l)) = true
    · rw [if_pos hb] at hr
      refine ifn (by rw [bit1 (by omega) (by omega) hb]; decide) ?_
      generalize hS : sI (sI σ 3 15 (nI (x :: l).length)) 3 16 (nI (s + 1)) = S
      have fS : FG σ S := by rw [← hS]; exact ⟨rfl, fun c h1 h2 => by rw [sI_r, if_neg h1, sI_r, if_neg h1], fun y h1 h2 => by rw [sI_r, if_pos rfl, upd_r, if_neg h2, sI_r, if_pos rfl, upd_r, if_neg h1]⟩
      have S16 : S.1 3 16 = nI (s + 1) := by rw [← hS, sI_r, if_pos rfl, pk_us]
      have S15 : S.1 3 15 = nI (x :: l).length := by rw [← hS, sI_r, if_pos rfl, upd_r, if_neg (by decide), sI_r, if_pos rfl, pk_us]
      have SP : PSt (S.1 16) (x :: l) := by rw [← hS, sI_r, if_neg (by decide), sI_r, if_neg (by decide)]; exact ps
      refine ite2 (fun e => ⟨vb1, q1 (s + 1) (x :: l) S ?_ (by show l.length + 1 ≤ 6; omega) fS S16 S15 SP⟩) (fun e => ifp h6 ⟨hv0, loop (n - (fst1 (x :: l) + 1)) (fst1 (x :: l) + 1) (s + 1) S (by omega) (by omega) fS SP S16 ?_⟩)
      · rw [hr]
        show (if nI s = w then (s + 1, some (x :: l)) else _) = _
        rw [if_pos e]
      · rw [hr]
        show (if nI s = w then (s + 1, some (x :: l)) else _) = _
        rw [if_neg e]; rfl
    · rw [if_neg hb, List.nil_append] at hr
      exact ifp (bit0 (by omega) (by omega) hb) (ifp h6 ⟨hv0, loop (n - (fst1 (x :: l) + 1)) (fst1 (x :: l) + 1) s σ (by omega) (by omega) FG.rf ps hs (by rw [hr])⟩)
/-- all rings, in their order -/
def allR (n : Nat) (M : Nat → Nat) : List (List Nat) := scn (fun k => rgs n M 5 [k]) (may M []) n 0
set_option maxHeartbeats 1000000 in
theorem p_seek {d : Nat} {K : Po} {σ : Hp} {n : Nat} {M : Nat → Nat} {w : Int32} (h16 : n ≤ 16) (hM : ∀ i, i < n → M i < 2 ^ 16) (rc : RC n M σ) (q1 : ∀ s' r τ, skL w 0 (allR n M) = (s', some r) → r.length ≤ 6 → FG σ τ → τ.1 3 15 = nI r.length → PSt (τ.1 16) r → K (some (.int (nI s'))) τ) (q0 : ∀ s' τ, skL w 0 (allR n M) = (s', none) → FG σ τ → K (some (.int (nI s'))) τ) : CTs (d + 7) y_Tx_seekRing [.ref 3, .int w] σ K := by
  refine e_Tx_seekRing rfl (t_Tx_seekRing_0 rfl ?_)
  have loop : ∀ (c k s0 : Nat) (τ : Hp), k + c = n → FG σ τ → τ.1 3 16 = nI s0 → skL w 0 (allR n M) = skL w s0 (scn (fun k => rgs n M 5 [k]) (may M []) c k) → WP c_Tx_seekRing (CTs (d + 6)) K (9, [(0, .ref 3), (1, .int w), (2, .int 0), (3, .int (nI k))], []) τ := by
    intro c
    induction c with
    | zero =>
      intro k s0 τ hk fg hs e
      refine t_Tx_seekRing_9 rfl ?_
      rw [(rc.fr fg).1, hs]
      exact ifp (nI_le (by omega) (by omega)) (q0 s0 τ e fg)
    | succ c ih =>
      intro k s0 τ hk fg hs e
      have e' : skL w 0 (allR n M) = skL w s0 (rgs n M 5 [k] ++ scn (fun k => rgs n M 5 [k]) (may M []) c (k + 1)) := e
      have z0 : (0 : Int32).toNatClampNeg = 0 := by decide
      refine t_Tx_seekRing_9 rfl ?_
      rw [(rc.fr fg).1, (sh31 k (by omega)).2.1, z0, nI_1 k]
      refine ifn (nI_ge (by omega) (by omega)) (ifp rfl ⟨vp_in_nI (n := 0) (by omega) (by omega), ?_⟩)
      generalize hT : sI τ (3 + 13) 0 (nI k) = T
      have fT : FG τ T := by rw [← hT]; exact ⟨rfl, fun c h1 h2 => by rw [sI_r, if_neg h2], fun y h1 h2 => by rw [sI_r, if_neg (by decide)]⟩
      have T16 : T.1 16 = upd (τ.1 16) 0 (nI k) := by rw [← hT, sI_r, if_pos rfl]
      have T3 : T.1 3 = τ.1 3 := by rw [← hT, sI_r, if_neg (by decide)]
      refine p_goOn h16 hM 5 d _ T k [] (2 ^ k) s0 rfl (fun y hy => ?_) ⟨Nat.pow_lt_pow_right (by omega) (by omega), fun j => ?_⟩ ((rc.fr fg).fr fT) ⟨by rw [T16]; exact pk_us, trivial⟩ (by rw [T3]; exact hs) (fun s' r v ev hr fv v16 v15 pv => ?_) (fun s' v ev fv v16 pv => ?_)
      · rw [List.mem_singleton] at hy
        rw [hy]; omega
      · rw [Nat.testBit_two_pow, List.contains_cons]
        by_cases ekj : k = j
        · rw [ekj]; simp
        · have : (j == k) = false := by rw [beq_eq_false_iff_ne]; exact fun z => ekj z.symm
          rw [this, decide_eq_false ekj]; rfl
      · have ef : skL w 0 (allR n M) = (s', some r) := by rw [e', skL_s ev]
        refine t_Tx_seekRing_9 rfl ?_
        have fa := (fg.tr fT).tr fv
        rw [v16]
        exact ite2 (fun _ => q1 s' r v ef hr fa v15 pv) (fun _ => ifn (by decide) (q1 s' r v ef hr fa v15 pv))
      · exact ih (k + 1) s' v (by omega) ((fg.tr fT).tr fv) v16 (by rw [e', skL_n ev])
  refine loop n 0 0 _ (by omega) ⟨rfl, fun c h1 _ => by rw [sI_r, if_neg h1], fun x _ h2 => by rw [sI_r, if_pos rfl, upd_r, if_neg h2]⟩ (by rw [sI_r, if_pos rfl, pk_us]; rfl) rfl
