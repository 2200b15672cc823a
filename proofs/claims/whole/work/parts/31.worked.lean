/-! ===== worked, of the model ===== -/
theorem evs_len {th sg V : Nat → Int32} {i : Nat} : ∀ (c k h h' : Nat) (l : List Int32), l.length = h → hgs th sg i c k h = some h' → (evs th sg V c k l).length = h' := by
  intro c
  induction c with
  | zero => intro k h h' l hl hh; cases hh; exact hl
  | succ c ih =>
    intro k h h' l hl hh
    unfold hgs at hh
    cases hg : hg1 th i (sN (sg k)) h with
    | none => rw [hg] at hh; cases hh
    | some h1 =>
      rw [hg] at hh
      refine ih (k + 1) h1 h' _ ?_ hh
      unfold hg1 at hg
      unfold ev1
      split at hg
      · rename_i e
        rw [if_pos e]
        split at hg
        · cases hg; rw [List.length_cons, hl]
        · cases hg
      · rename_i e
        rw [if_neg e]
        split at hg
        · rename_i e2
          rw [if_pos e2]
          split at hg
          · cases hg; rw [List.length_cons, hl]
          · cases hg
        · rename_i e2
          rw [if_neg e2]
          split at hg
          · rename_i e3
            rw [if_pos e3]
            split at hg
            · rename_i e4
              cases hg
              match l, hl with
              | x :: l, hl => exact hl
              | [], hl => exact absurd e4.2.2 (by rw [← hl]; decide)
            · cases hg
          · rename_i e3
            rw [if_neg e3]
            split at hg
            · rename_i e4
              rw [if_pos e4]
              split at hg
              · rename_i e5
                cases hg
                match l, hl with
                | x :: l, hl => exact hl
                | [], hl => exact absurd e5 (by rw [← hl]; decide)
              · cases hg
            · rename_i e4
              rw [if_neg e4]
              split at hg
              · rename_i e5
                cases hg
                match l, hl with
                | y :: x :: l, hl => rw [List.length_cons] at hl ⊢; rw [List.length_cons] at hl; omega
                | [x], hl => exact absurd e5.2 (by rw [← hl]; show ¬ 1 < 1; decide)
                | [], hl => exact absurd e5.2 (by rw [← hl]; decide)
              · cases hg
theorem hg1_cases {th : Nat → Int32} {i s h h1 : Nat} (hg : hg1 th i s h = some h1) : (s < 100000 ∧ h < 32 ∧ h1 = h + 1) ∨ (∃ j, j < i ∧ s = 100000 + j ∧ s < 200000 ∧ h < 32 ∧ h1 = h + 1) ∨ (∃ t, t < i ∧ s = 200000 + t ∧ s < 300000 ∧ th (20 * t) = 4 ∧ 0 < h ∧ h1 = h) ∨ (s = 400001 ∧ 0 < h ∧ h1 = h) ∨ (isJ s ∧ 1 < h ∧ h1 + 1 = h) := by
  unfold hg1 at hg
  split at hg
  · rename_i e
    split at hg
    · rename_i e2; cases hg; exact Or.inl ⟨e, e2, rfl⟩
    · cases hg
  · rename_i e
    split at hg
    · rename_i e2
      split at hg
      · rename_i e3; cases hg; exact Or.inr (Or.inl ⟨s - 100000, e3.1, by omega, e2, e3.2, rfl⟩)
      · cases hg
    · rename_i e2
      split at hg
      · rename_i e3
        split at hg
        · rename_i e4; cases hg; exact Or.inr (Or.inr (Or.inl ⟨s - 200000, e4.1, by omega, e3, e4.2.1, e4.2.2, rfl⟩))
        · cases hg
      · split at hg
        · rename_i e4
          split at hg
          · rename_i e5; cases hg; exact Or.inr (Or.inr (Or.inr (Or.inl ⟨e4, e5, rfl⟩)))
          · cases hg
        · split at hg
          · rename_i e5; cases hg; exact Or.inr (Or.inr (Or.inr (Or.inr ⟨e5.1, e5.2, by omega⟩)))
          · cases hg
theorem ev1_J {th V : Nat → Int32} {s : Nat} {x y : Int32} {l : List Int32} (hs : isJ s) : ev1 th V s (y :: x :: l) = js s x y :: l := by
  rcases hs with rfl | rfl | rfl | rfl | rfl | rfl | rfl <;> rfl
set_option maxHeartbeats 1000000 in
theorem p_mworked {d : Nat} {K : Po} {σ : Hp} {i a b : Nat} (hi : i < 16) (ha : σ.1 99 (20 * i + 6) = nI a) (hb : σ.1 99 (20 * i + 7) = nI b) (hab : a ≤ b) (h300 : b ≤ 300) (hsg : ∀ k, a ≤ k → k < b → ∃ s, s < 400002 ∧ σ.1 100 k = nI s) (hh : hgs (σ.1 99) (σ.1 100) i (b - a) a 0 = some 1) (tabs : ∀ t, t < i → σ.1 99 (20 * t) = 4 → ∃ c, TabOK (σ.1 99) t c)
    (q : ∀ τ : Hp, τ.2 = σ.2 → (∀ c, c ≠ 109 → τ.1 c = σ.1 c) → K (some (.int (wrk (σ.1 99) (σ.1 100) (σ.1 110) i))) τ) : CTs (d + 3) y_M_worked [.ref 98, .int (nI i)] σ K := by
  refine e_M_worked (t_M_worked_0 (p_of (w := 6) hi (by omega) ?_))
  rw [ha]
  have key : ∀ (c k : Nat) (l : List Int32) (τ : Hp), l.length ≤ k → k + c = b → a ≤ k → τ.2 = σ.2 → (∀ c, c ≠ 109 → τ.1 c = σ.1 c) → Stk (τ.1 109) l → hgs (σ.1 99) (σ.1 100) i c k l.length = some 1 → (∀ τ : Hp, τ.2 = σ.2 → (∀ c, c ≠ 109 → τ.1 c = σ.1 c) → K (some (.int ((evs (σ.1 99) (σ.1 100) (σ.1 110) c k l).headD 0))) τ) → WP c_M_worked (CTs (d + 2)) K (10, [(0, .ref 98), (1, .int (nI i)), (2, .int (nI l.length)), (3, .int (nI k))], []) τ := by
    intro c
    induction c with
    | zero =>
      intro k l τ hLe hk hak t2 t1 hS hg q
      refine t_M_worked_10 (p_of (w := 7) hi (by omega) ?_)
      rw [t1 99 (by decide), hb]
      refine ifp (nI_le (a := b) (b := k) (by omega) (by omega)) ⟨vp_in_nI (n := 0) (by omega) (by omega), ?_⟩
      have hl : l.length = 1 := Option.some.inj hg
      match l, hl, hS, q with
      | [x], _, hS, q =>
        show K (some (.int (τ.1 109 0))) τ
        rw [show τ.1 109 0 = x from hS.1]
        exact q τ t2 t1
    | succ c ih =>
      intro k l τ hLe hk hak t2 t1 hS hg q
      refine t_M_worked_10 (p_of (w := 7) hi (by omega) ?_)
      rw [t1 99 (by decide), hb]
      refine ifn (nI_ge (a := k) (b := b) (by omega) (by omega)) ⟨vp_in_nI (by omega) (by omega), ?_⟩
      obtain ⟨s, hs, es⟩ := hsg k hak (by omega)
      rw [nI_clamp (by omega), t1 100 (by decide), es]
      unfold hgs at hg
      unfold evs at q
      rw [es, show sN (nI s) = s from nI_clamp (by omega)] at hg q
      cases hg1' : hg1 (σ.1 99) i s l.length with
      | none => rw [hg1'] at hg; cases hg
      | some h1 =>
        rw [hg1'] at hg
        replace hg : hgs (σ.1 99) (σ.1 100) i c (k + 1) h1 = some 1 := hg
        have fr : ∀ (m : Nat) (v : Int32) (e : Nat), e ≠ 109 → (sI τ 109 m v).1 e = σ.1 e := fun m v e he => by rw [sI_r, if_neg he]; exact t1 e he
        rcases hg1_cases hg1' with ⟨e1, e2, e3⟩ | ⟨j, e1, e2, e2', e3, e4⟩ | ⟨t, e1, e2, e2', e3, e4, e5⟩ | ⟨e1, e2, e3⟩ | ⟨e1, e2, e3⟩
        · subst e3
          refine ifn (fun z => absurd z (nI_ge (b := 100000) e1 (by omega))) ⟨vp_in_nI (by omega) (by omega), ?_⟩
          rw [nI_clamp (by omega), nI_1, nI_1]
          have ee : ev1 (σ.1 99) (σ.1 110) s l = nI s :: l := by unfold ev1; rw [if_pos e1]
          rw [ee] at q
          exact ih (k + 1) (nI s :: l) (sI τ 109 l.length (nI s)) (by simp only [List.length_cons] at hLe ⊢; omega) (by omega) (by omega) t2 (fr _ _) hS.push hg q
        · subst e4
          subst e2
          refine ifp (nI_le (a := 100000) (by omega) (by omega)) (ifn (nI_ge (b := 200000) e2' (by omega)) ?_)
          have ej : nI (100000 + j) - 100000 = nI j := (pk_sub (a := 100000 + j) (b := 100000) (by omega)).trans (by rw [show 100000 + j - 100000 = j by omega])
          rw [ej, nI_clamp (by omega), nI_clamp (by omega), nI_1, nI_1, t1 110 (by decide)]
          have ee : ev1 (σ.1 99) (σ.1 110) (100000 + j) l = σ.1 110 j :: l := by unfold ev1; rw [if_neg (by omega), if_pos e2', show 100000 + j - 100000 = j by omega]
          rw [ee] at q
          exact ⟨vp_in_nI (by omega) (by omega), vp_in_nI (by omega) (by omega), ih (k + 1) (σ.1 110 j :: l) (sI τ 109 l.length (σ.1 110 j)) (by simp only [List.length_cons] at hLe ⊢; omega) (by omega) (by omega) t2 (fr _ _) hS.push hg q⟩
        · subst e5
          subst e2
          match l, hS, e4, hg, q with
          | x :: l, hS, e4, hg, q =>
            have hl32 : l.length < 299 := by
              have := hLe
              simp only [List.length_cons] at this
              omega
            have ej : nI (200000 + t) - 200000 = nI t := (pk_sub (a := 200000 + t) (b := 200000) (by omega)).trans (by rw [show 200000 + t - 200000 = t by omega])
            refine ifp (nI_le (a := 100000) (by omega) (by omega)) (ifp (nI_le (a := 200000) (by omega) (by omega)) (ifn (nI_ge (b := 300000) e2' (by omega)) ?_))
            rw [List.length_cons, nI_pred, ej, nI_clamp (by omega), nI_1]
            obtain ⟨cc, ok⟩ := tabs t e1 e3
            refine ⟨vp_in_nI (by omega) (by omega), p_onLine (c := cc) (by omega) (by rw [t1 99 (by decide)]; exact ok) ⟨vp_in_nI (by omega) (by omega), ?_⟩⟩
            show WP c_M_worked (CTs (d + 2)) K (10, [(0, .ref 98), (1, .int (nI i)), (2, .int (nI (l.length + 1))), (3, .int (nI (k + 1)))], []) (sI τ 109 l.length (lk (τ.1 99) t (τ.1 109 l.length)))
            rw [t1 99 (by decide), hS.1]
            have ee : ev1 (σ.1 99) (σ.1 110) (200000 + t) (x :: l) = lk (σ.1 99) t x :: l := by unfold ev1; rw [if_neg (by omega), if_neg (by omega), if_pos e2']; dsimp only; rw [show 200000 + t - 200000 = t by omega]
            rw [ee] at q
            exact ih (k + 1) (lk (σ.1 99) t x :: l) _ (by simp only [List.length_cons] at hLe ⊢; omega) (by omega) (by omega) t2 (fr _ _) hS.2.push hg q
        · subst e3
          subst e1
          match l, hS, e2, hg, q with
          | x :: l, hS, e2, hg, q =>
            have hl32 : l.length < 299 := by
              have := hLe
              simp only [List.length_cons] at this
              omega
            refine ifp (by decide) (ifp (by decide) (ifp (by decide) (ifp rfl ?_)))
            rw [List.length_cons, nI_pred, nI_clamp (by omega), nI_1, hS.1]
            exact ⟨vp_in_nI (by omega) (by omega), vp_in_nI (by omega) (by omega), ih (k + 1) ((0 - x) :: l) _ (by simp only [List.length_cons] at hLe ⊢; omega) (by omega) (by omega) t2 (fr _ _) hS.2.push hg q⟩
        · match l, hS, e2, e3, hg, q with
          | y :: x :: l, hS, e2, e3, hg, q =>
            have hl32 : l.length < 299 := by
              have := hLe
              simp only [List.length_cons] at this
              omega
            obtain rfl : h1 = l.length + 1 := by simp only [List.length_cons] at e3; omega
            rw [ev1_J e1] at q
            have eA : nI (y :: x :: l).length + (-1) = nI (l.length + 1) := pk_m1 (l.length + 1)
            have h3 : 300000 ≤ s ∧ s ≠ 400001 := by rcases e1 with e | e | e | e | e | e | e <;> omega
            refine ifp (nI_le (a := 100000) (by omega) (by omega)) (ifp (nI_le (a := 200000) (by omega) (by omega)) (ifp (nI_le (a := 300000) h3.1 (by omega)) (ifn (fun z => h3.2 ((nI_eq (b := 400001) (by omega) (by omega)).mp z)) ?_)))
            rw [eA, nI_pred, nI_clamp (by omega), nI_clamp (by omega), nI_1]
            have hx : τ.1 109 l.length = x := hS.2.1
            have hy : τ.1 109 (l.length + 1) = y := hS.1
            rw [hx, hy]
            have go : ∀ v, v = js s x y → WP c_M_worked (CTs (d + 2)) K (10, [(0, .ref 98), (1, .int (nI i)), (2, .int (nI (l.length + 1))), (3, .int (nI (k + 1)))], []) (sI τ 109 l.length v) := fun v hv => by
              subst hv
              exact ih (k + 1) (js s x y :: l) _ (by simp only [List.length_cons] at hLe ⊢; omega) (by omega) (by omega) t2 (fr _ _) hS.2.2.push hg q
            refine ⟨vp_in_nI (by omega) (by omega), vp_in_nI (by omega) (by omega), ite2 (fun z => ?_) (fun z => ?_)⟩
            · have es4 : s = 400000 := (nI_eq (b := 400000) (by omega) (by omega)).mp z
              subst es4
              refine ite2 (fun w => ⟨vp_in_nI (by omega) (by omega), go _ ?_⟩) (fun w => ⟨vp_in_nI (by omega) (by omega), go _ ?_⟩)
              · show y = if x < y then x else y
                rw [if_neg (Int32.not_lt.mpr w)]
              · show x = if x < y then x else y
                rw [if_pos (Int32.not_le.mp w)]
            · have hne : s ≠ 400000 := fun e => z (by rw [e]; rfl)
              rw [show nI s - 300000 = nI (s - 300000) from pk_sub (b := 300000) h3.1]
              refine p_joined ?_ ⟨vp_in_nI (by omega) (by omega), go _ ?_⟩
              · rcases e1 with e | e | e | e | e | e | e
                · exact absurd e hne
                all_goals omega
              · show j2 (s - 300000) x y = js s x y
                unfold js
                rw [if_neg hne]
  exact key (b - a) a [] σ (Nat.zero_le _) (by omega) (Nat.le_refl _) rfl (fun _ _ => rfl) trivial hh (fun τ t2 t1 => by
    have := q τ t2 t1
    unfold wrk at this
    rw [ha, hb, show sN (nI a) = a from nI_clamp (by omega), show sN (nI b) = b from nI_clamp (by omega)] at this
    exact this)
