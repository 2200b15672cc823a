/-! ===== worked, of the class ===== -/
theorem cw_and (n : Nat) (h : n < 2 ^ 31) : nI n &&& (15 : Int32) = nI (n % 16) := pk_andN (by omega) 4 (by decide)
theorem cw_shr (n : Nat) (h : n < 2 ^ 31) : nI n >>> ((4 : Int32) &&& 31) = nI (n / 16) := pk_shrN h _ 4 (by decide)
theorem cwJ {s : Nat} (h : isJ s) : cwN s % 16 = cwN s ∧ 4 ≤ cwN s ∧ cwN s ≤ 10 := by
  rcases h with rfl | rfl | rfl | rfl | rfl | rfl | rfl <;> decide
set_option maxHeartbeats 1000000 in
theorem p_worked {d : Nat} {K : Po} {σ : Hp} {th sg : Nat → Int32} {w i a b : Nat} (hw : w = 45 ∨ w = 56) (hi : i < 16) (ha : σ.1 9 i = nI a) (hb : σ.1 10 i = nI b) (hab : a ≤ b) (h300 : b ≤ 300) (hcd : ∀ k, a ≤ k → k < b → ∃ s, s < 400002 ∧ sg k = nI s ∧ σ.1 15 k = nI (cwN s)) (hh : hgs th sg i (b - a) a 0 = some 1) (tabs : ∀ t, t < i → th (20 * t) = 4 → ∃ c, TabOK th t c ∧ TabC σ th t c)
    (q : ∀ τ : Hp, τ.2 = σ.2 → (∀ c, c ≠ w + 10 → τ.1 c = σ.1 c) → K (some (.int ((evs th sg (σ.1 (w + 5)) (b - a) a []).headD 0))) τ) : CTs (d + 3) y_Wo_worked [.ref w, .ref 3, .int (nI i)] σ K := by
  refine e_Wo_worked hw (t_Wo_worked_0 hw ⟨vp_in_nI (by omega) (by omega), ?_⟩)
  rw [nI_clamp (by omega), ha]
  have hw15 : ∀ c, c ≤ 15 → c ≠ w + 10 := fun c hc => by rcases hw with e | e <;> omega
  have hw5 : w + 5 ≠ w + 10 := by omega
  have key : ∀ (c k : Nat) (l : List Int32) (τ : Hp), l.length ≤ 32 → k + c = b → a ≤ k → τ.2 = σ.2 → (∀ c, c ≠ w + 10 → τ.1 c = σ.1 c) → Stk (τ.1 (w + 10)) l → hgs th sg i c k l.length = some 1 → (∀ τ : Hp, τ.2 = σ.2 → (∀ c, c ≠ w + 10 → τ.1 c = σ.1 c) → K (some (.int ((evs th sg (σ.1 (w + 5)) c k l).headD 0))) τ) → WP c_Wo_worked (CTs (d + 2)) K (10, [(0, .ref w), (1, .ref 3), (2, .int (nI i)), (3, .int (nI l.length)), (4, .int (nI k))], []) τ := by
    intro c
    induction c with
    | zero =>
      intro k l τ hLe hk hak t2 t1 hS hg q
      refine t_Wo_worked_10 hw ⟨vp_in_nI (by omega) (by omega), ?_⟩
      rw [nI_clamp (by omega), t1 10 (hw15 10 (by omega)), hb]
      refine ifp (nI_le (a := b) (b := k) (by omega) (by omega)) ?_
      have hl : l.length = 1 := Option.some.inj hg
      match l, hl, hS, q with
      | [x], _, hS, q =>
        refine ifp (show (1 : Int32) ≤ nI 1 by decide) ⟨vp_in_nI (n := 0) (by omega) (by omega), ?_⟩
        show K (some (.int (τ.1 (w + 10) 0))) τ
        rw [show τ.1 (w + 10) 0 = x from hS.1]
        exact q τ t2 t1
    | succ c ih =>
      intro k l τ hLe hk hak t2 t1 hS hg q
      refine t_Wo_worked_10 hw ⟨vp_in_nI (by omega) (by omega), ?_⟩
      rw [nI_clamp (by omega), t1 10 (hw15 10 (by omega)), hb]
      refine ifn (nI_ge (a := k) (b := b) (by omega) (by omega)) ⟨vp_in_nI (by omega) (by omega), vp_in_nI (by omega) (by omega), ?_⟩
      obtain ⟨s, hs, es, ec⟩ := hcd k hak (by omega)
      have hcw : cwN s < 2 ^ 31 := by unfold cwN; repeat (first | omega | split)
      rw [nI_clamp (by omega), t1 15 (hw15 15 (by omega)), ec, cw_and _ hcw, cw_shr _ hcw, nI_1]
      unfold hgs at hg
      unfold evs at q
      rw [es, show sN (nI s) = s from nI_clamp (by omega)] at hg q
      cases hg1' : hg1 th i s l.length with
      | none => rw [hg1'] at hg; cases hg
      | some h1 =>
        rw [hg1'] at hg
        replace hg : hgs th sg i c (k + 1) h1 = some 1 := hg
        have fr : ∀ (m : Nat) (v : Int32) (e : Nat), e ≠ w + 10 → (sI τ (w + 10) m v).1 e = σ.1 e := fun m v e he => by rw [sI_r, if_neg he]; exact t1 e he
        have st : ∀ (m : Nat) (v : Int32) (l : List Int32), Stk (upd (τ.1 (w + 10)) m v) l → Stk ((sI τ (w + 10) m v).1 (w + 10)) l := fun m v l h => by rw [sI_r, if_pos rfl]; exact h
        rcases hg1_cases hg1' with ⟨e1, e2, e3⟩ | ⟨j, e1, e2, e2', e3, e4⟩ | ⟨t, e1, e2, e2', e3, e4, e5⟩ | ⟨e1, e2, e3⟩ | ⟨e1, e2, e3⟩
        · subst e3
          have c1 : cwN s = 16 * s := by unfold cwN; rw [if_pos e1]
          rw [c1, show 16 * s % 16 = 0 by omega, show 16 * s / 16 = s by omega]
          refine ifn (by decide) (ifp (nI_lt (b := 32) e2 (by omega)) (ifp rfl ⟨vp_in_nI e2 (by omega), ?_⟩))
          rw [nI_clamp (by omega), nI_1]
          have ee : ev1 th (σ.1 (w + 5)) s l = nI s :: l := by unfold ev1; rw [if_pos e1]
          rw [ee] at q
          exact ih (k + 1) (nI s :: l) (sI τ (w + 10) l.length (nI s)) (by simp only [List.length_cons]; omega) (by omega) (by omega) t2 (fr _ _) (st _ _ _ hS.push) hg q
        · subst e4
          subst e2
          have c1 : cwN (100000 + j) = 16 * j + 1 := by unfold cwN; rw [if_neg (by omega), if_pos e2', show 100000 + j - 100000 = j by omega]
          rw [c1, show (16 * j + 1) % 16 = 1 by omega, show (16 * j + 1) / 16 = j by omega]
          refine ifn (by decide) (ifp (nI_lt (b := 32) e3 (by omega)) (ifn (by decide) ⟨vp_in_nI (by omega) (by omega), vp_in_nI e3 (by omega), ?_⟩))
          rw [nI_clamp (by omega), nI_clamp (by omega), nI_1, t1 (w + 5) hw5]
          have ee : ev1 th (σ.1 (w + 5)) (100000 + j) l = σ.1 (w + 5) j :: l := by unfold ev1; rw [if_neg (by omega), if_pos e2', show 100000 + j - 100000 = j by omega]
          rw [ee] at q
          exact ih (k + 1) (σ.1 (w + 5) j :: l) (sI τ (w + 10) l.length (σ.1 (w + 5) j)) (by simp only [List.length_cons]; omega) (by omega) (by omega) t2 (fr _ _) (st _ _ _ hS.push) hg q
        · subst e5
          subst e2
          match l, hS, hLe, e4, hg, q with
          | x :: l, hS, hLe, e4, hg, q =>
            have hl32 : l.length < 32 := by simp only [List.length_cons] at hLe; omega
            have c1 : cwN (200000 + t) = 16 * t + 3 := by unfold cwN; rw [if_neg (by omega), if_neg (by omega), if_pos e2', show 200000 + t - 200000 = t by omega]
            rw [c1, show (16 * t + 3) % 16 = 3 by omega, show (16 * t + 3) / 16 = t by omega]
            obtain ⟨cc, ok, tc⟩ := tabs t e1 e3
            rw [List.length_cons, nI_pred, nI_clamp (by omega)]
            refine ifp (by decide) (ifn (by decide) (ifp (nI_le (a := 1) (by omega) (by omega)) (ifn (by decide) ⟨vp_in_nI hl32 (by omega), p_look (th := th) (c := cc) (by omega) ok ⟨by rw [t1 12 (hw15 12 (by omega))]; exact tc.1, fun m hm => by rw [t1 13 (hw15 13 (by omega)), t1 14 (hw15 14 (by omega))]; exact tc.2 m hm⟩ ⟨vp_in_nI hl32 (by omega), ?_⟩⟩)))
            show WP c_Wo_worked (CTs (d + 2)) K (10, [(0, .ref w), (1, .ref 3), (2, .int (nI i)), (3, .int (nI (l.length + 1))), (4, .int (nI (k + 1)))], []) (sI τ (w + 10) l.length (lk th t (τ.1 (w + 10) l.length)))
            rw [hS.1]
            have ee : ev1 th (σ.1 (w + 5)) (200000 + t) (x :: l) = lk th t x :: l := by unfold ev1; rw [if_neg (by omega), if_neg (by omega), if_pos e2']; dsimp only; rw [show 200000 + t - 200000 = t by omega]
            rw [ee] at q
            exact ih (k + 1) (lk th t x :: l) _ (by simp only [List.length_cons]; omega) (by omega) (by omega) t2 (fr _ _) (st _ _ _ hS.2.push) hg q
        · subst e3
          subst e1
          match l, hS, hLe, e2, hg, q with
          | x :: l, hS, hLe, e2, hg, q =>
            have hl32 : l.length < 32 := by simp only [List.length_cons] at hLe; omega
            rw [show cwN 400001 = 2 from rfl]
            rw [List.length_cons, nI_pred, nI_clamp (by omega)]
            refine ifp (by decide) (ifn (by decide) (ifp (nI_le (a := 1) (by omega) (by omega)) (ifp rfl ⟨vp_in_nI hl32 (by omega), vp_in_nI hl32 (by omega), ?_⟩)))
            rw [hS.1, ← Int32.zero_sub]
            exact ih (k + 1) ((0 - x) :: l) _ (by simp only [List.length_cons]; omega) (by omega) (by omega) t2 (fr _ _) (st _ _ _ hS.2.push) hg q
        · match l, hS, hLe, e2, e3, hg, q with
          | y :: x :: l, hS, hLe, e2, e3, hg, q =>
            have hl32 : l.length + 1 < 32 := by simp only [List.length_cons] at hLe; omega
            obtain rfl : h1 = l.length + 1 := by simp only [List.length_cons] at e3; omega
            rw [ev1_J e1] at q
            have eA : nI (y :: x :: l).length + (-1) = nI (l.length + 1) := pk_m1 (l.length + 1)
            obtain ⟨j1, j2, j3⟩ := cwJ e1
            rw [j1, eA, nI_pred, nI_clamp (by omega), nI_clamp (by omega)]
            rw [show τ.1 (w + 10) l.length = x from hS.2.1, show τ.1 (w + 10) (l.length + 1) = y from hS.1]
            refine ifp (nI_lt (a := 1) (by omega) (by omega)) (ifp (nI_lt (a := 3) (by omega) (by omega)) (ifp (nI_le (a := 2) (by simp only [List.length_cons]; omega) (by simp only [List.length_cons]; omega)) ⟨vp_in_nI (by omega) (by omega), vp_in_nI hl32 (by omega), p_wjoined e1 ⟨vp_in_nI (by omega) (by omega), ?_⟩⟩))
            exact ih (k + 1) (js s x y :: l) _ (by simp only [List.length_cons]; omega) (by omega) (by omega) t2 (fr _ _) (st _ _ _ hS.2.2.push) hg q
  exact key (b - a) a [] σ (Nat.zero_le _) (by omega) (Nat.le_refl _) rfl (fun _ _ => rfl) trivial hh q
