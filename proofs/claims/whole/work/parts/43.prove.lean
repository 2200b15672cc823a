/-! ===== prove, judge ===== -/
theorem wasV_off {σ τ : Hp} {n now i s : Nat} (h : ∀ c, c = 99 ∨ c = 100 ∨ c = 105 ∨ c = 106 ∨ c = 108 → τ.1 c = σ.1 c) : wasV τ n now i s = wasV σ n now i s := by
  unfold wasV
  rw [h 99 (by omega), h 100 (by omega), h 105 (by omega), h 106 (by omega), h 108 (by omega)]
def prw (w old : Nat → Int32) (k j : Nat) : Int32 := if j < 2 * k then (if j % 2 = 0 then nI (j / 2) else w (j / 2)) else old j
theorem prw_s {w old row : Nat → Int32} {k j : Nat} (h : row j = prw w old k j) : upd (upd row (2 * k) (nI k)) (2 * k + 1) (w k) j = prw w old (k + 1) j := by
  rw [upd_r, upd_r, h]
  unfold prw
  by_cases e1 : j = 2 * k + 1
  · rw [if_pos e1, if_pos (by omega), if_neg (by omega), show j / 2 = k by omega]
  · rw [if_neg e1]
    by_cases e0 : j = 2 * k
    · rw [if_pos e0, if_pos (by omega), if_pos (by omega), show j / 2 = k by omega]
    · rw [if_neg e0]
      by_cases h2 : j < 2 * k
      · rw [if_pos h2, if_pos (show j < 2 * (k + 1) by omega)]
      · rw [if_neg h2, if_neg (show ¬ j < 2 * (k + 1) by omega)]
theorem ix2 {k : Nat} (h : k < 61) : vp_in ((2 : Int32) * nI k) 122 ∧ vp_in ((2 : Int32) * nI k + 1) 122 ∧ ((2 : Int32) * nI k).toNatClampNeg = 2 * k ∧ ((2 : Int32) * nI k + 1).toNatClampNeg = 2 * k + 1 := by
  have e1 : (2 : Int32) * nI k = nI (2 * k) := by rw [show (2 : Int32) = nI 2 from rfl, pk_mul]
  rw [e1, nI_1]
  exact ⟨vp_in_nI (by omega) (by omega), vp_in_nI (by omega) (by omega), nI_clamp (by omega), nI_clamp (by omega)⟩
theorem p_sprove {d : Nat} {K : Po} {σ : Hp} {n now i : Nat} (h16 : n ≤ 16) (hnow : σ.1 45 0 = nI now) (h60 : now ≤ 60) (hi : i < n) (hv : ∀ i, i < n → σ.1 50 i = vto (σ.1 99) (σ.1 100) (σ.1 105) (σ.1 106) now n i) (ps : PST n now (σ.1 108) (σ.1 78))
    (q : ∀ τ : Hp, τ.2 = σ.2 → (∀ c, c ≠ 0 → c ≠ 81 → τ.1 c = σ.1 c) → (∀ x, x ≠ 10 → τ.1 0 x = σ.1 0 x) → τ.1 0 10 = nI (now + 1) → (∀ j, τ.1 81 j = prw (wasV σ n now i) (σ.1 81) (now + 1) j) → K (some (.int (nI (now + 1)))) τ) : ∀ (c k : Nat) (τ : Hp), k + c = now + 1 → τ.2 = σ.2 → (∀ c, c ≠ 0 → c ≠ 81 → τ.1 c = σ.1 c) → (∀ x, x ≠ 10 → τ.1 0 x = σ.1 0 x) → τ.1 0 10 = nI (now + 1) → (∀ j, τ.1 81 j = prw (wasV σ n now i) (σ.1 81) k j) → WP c_SS_prove (CTs (d + 1)) K (28, [(0, .ref 0), (1, .int (nI i)), (2, .int (nI k))], []) τ := by
  intro c
  induction c with
  | zero =>
    intro k τ hk t2 t1 tx t10 tr
    have ek : k = now + 1 := by omega
    rw [ek] at tr ⊢
    refine t_SS_prove_28 ?_
    rw [t10]
    exact ifp (Int32.le_refl _) (q τ t2 t1 tx t10 tr)
  | succ c ih =>
    intro k τ hk t2 t1 tx t10 tr
    refine t_SS_prove_28 ?_
    obtain ⟨x1, x2, x3, x4⟩ := ix2 (k := k) (by omega)
    rw [t10, x3, x4, nI_1 k]
    refine ifn (nI_ge (by omega) (by omega)) ⟨x1, ?_⟩
    have o1 : ∀ c, c ≠ 0 → c ≠ 81 → (sI τ 81 (2 * k) (nI k)).1 c = σ.1 c := fun c h1 h2 => by rw [sI_r, if_neg h2]; exact t1 c h1 h2
    refine p_then (n := n) (now := now) h16 (by rw [o1 45 (by decide) (by decide)]; exact hnow) h60 hi (by omega) (by rw [o1 50 (by decide) (by decide), o1 99 (by decide) (by decide), o1 100 (by decide) (by decide), o1 105 (by decide) (by decide), o1 106 (by decide) (by decide)]; exact hv) (by rw [o1 108 (by decide) (by decide), o1 78 (by decide) (by decide)]; exact ps) ⟨x2, ?_⟩
    rw [wasV_off (σ := σ) (fun c hc => o1 c (by omega) (by omega))]
    refine ih (k + 1) _ (by omega) t2 (fun c h1 h2 => by rw [sI_r, if_neg h2]; exact o1 c h1 h2) (fun x hx => by rw [sI_r, if_neg (by decide), sI_r, if_neg (by decide)]; exact tx x hx) (by rw [sI_r, if_neg (by decide), sI_r, if_neg (by decide)]; exact t10) (fun j => ?_)
    rw [sI_r, if_pos rfl, sI_r, if_pos rfl]
    exact prw_s (tr j)
theorem p_mprove {d : Nat} {K : Po} {σ : Hp} {n now i : Nat} (hn : σ.1 98 0 = nI n) (hnow : σ.1 98 19 = nI now) (h60 : now ≤ 60) (tw : TW n (σ.1 99) (σ.1 100)) (hi : i < n)
    (q : ∀ τ : Hp, τ.2 = σ.2 → (∀ c, c ≠ 98 → c ≠ 118 → c ≠ 109 → c ≠ 110 → c ≠ 111 → τ.1 c = σ.1 c) → (∀ x, x ≠ 43 → τ.1 98 x = σ.1 98 x) → τ.1 98 43 = nI (now + 1) → (∀ j, τ.1 118 j = prw (wasV σ n now i) (σ.1 118) (now + 1) j) → K (some (.int (nI (now + 1)))) τ) : ∀ (c k : Nat) (τ : Hp), k + c = now + 1 → τ.2 = σ.2 → (∀ c, c ≠ 98 → c ≠ 118 → c ≠ 109 → c ≠ 110 → c ≠ 111 → τ.1 c = σ.1 c) → (∀ x, x ≠ 43 → τ.1 98 x = σ.1 98 x) → τ.1 98 43 = nI (now + 1) → (∀ j, τ.1 118 j = prw (wasV σ n now i) (σ.1 118) k j) → WP c_M_prove (CTs (d + 5)) K (22, [(0, .ref 98), (1, .int (nI i)), (2, .int (nI k))], []) τ := by
  intro c
  induction c with
  | zero =>
    intro k τ hk t2 t1 tx t43 tr
    have ek : k = now + 1 := by omega
    rw [ek] at tr ⊢
    refine t_M_prove_22 ?_
    rw [tx 19 (by decide), hnow, t43]
    exact ifp (nI_lt (by omega) (by omega)) (q τ t2 t1 tx t43 tr)
  | succ c ih =>
    intro k τ hk t2 t1 tx t43 tr
    refine t_M_prove_22 ?_
    obtain ⟨x1, x2, x3, x4⟩ := ix2 (k := k) (by omega)
    rw [tx 19 (by decide), hnow, x3, x4, nI_1 k]
    refine ifn (nI_nlt (by omega) (by omega)) ⟨x1, ?_⟩
    have o1 : ∀ c, c ≠ 98 → c ≠ 118 → c ≠ 109 → c ≠ 110 → c ≠ 111 → (sI τ 118 (2 * k) (nI k)).1 c = σ.1 c := fun c h1 h2 h3 h4 h5 => by rw [sI_r, if_neg h2]; exact t1 c h1 h2 h3 h4 h5
    have o98 : ∀ x, x ≠ 43 → (sI τ 118 (2 * k) (nI k)).1 98 x = σ.1 98 x := fun x hx => by rw [sI_r, if_neg (by decide)]; exact tx x hx
    have o99 := o1 99 (by decide) (by decide) (by decide) (by decide) (by decide)
    have o100 := o1 100 (by decide) (by decide) (by decide) (by decide) (by decide)
    refine p_was (n := n) (now := now) (by rw [o98 0 (by decide)]; exact hn) (by rw [o98 19 (by decide)]; exact hnow) h60 (by rw [o99, o100]; exact tw) hi (by omega) (fun u fu => ⟨x2, ?_⟩)
    rw [wasV_off (σ := σ) (fun c hc => o1 c (by omega) (by omega) (by omega) (by omega) (by omega))]
    refine ih (k + 1) _ (by omega) (by rw [sI_l, fu.1]; exact t2) (fun c h1 h2 h3 h4 h5 => by rw [sI_r, if_neg h2, fu.2 c h3 h4 h5]; exact o1 c h1 h2 h3 h4 h5) (fun x hx => by rw [sI_r, if_neg (by decide), fu.2 98 (by decide) (by decide) (by decide)]; exact o98 x hx) (by rw [sI_r, if_neg (by decide), fu.2 98 (by decide) (by decide) (by decide), sI_r, if_neg (by decide)]; exact t43) (fun j => ?_)
    rw [sI_r, if_pos rfl, fu.2 118 (by decide) (by decide) (by decide), sI_r, if_pos rfl]
    exact prw_s (tr j)
set_option maxHeartbeats 1000000 in
theorem op_prove : O_prove Rel := by
  intro σ a1 h
  obtain ⟨⟨n, now, ne, hc⟩, hr, hkp⟩ := id h
  obtain ⟨a, b, c, ⟨tw, cx, mw, cw, ps, h60⟩, wl⟩ := id hc
  have h16 := tw.1
  have hnow : σ.1 45 0 = nI now := cw.1
  refine e_SS_prove (t_SS_prove_0 ?_)
  rcases ixc a1 (n := n) (by omega) with z | ⟨i, hi, rfl⟩
  · exact p_has0 (Or.inl rfl) cx.1 z (o0 (e_M_prove (t_M_prove_0 (p_isThing0 a h16 z (o0 ⟨rfl, h⟩)))))
  refine p_has1 (Or.inl rfl) cx.1 h16 hi (o1 ?_)
  rw [hnow, nI_1]
  refine p_sprove (σ := σ) (n := n) (now := now) h16 hnow h60 hi cw.2.2.2.2.1 ps (fun τ t2 t1 tx t10 tr => ?_) (now + 1) 0 _ (by omega) rfl (fun c h1 _ => by rw [sI_r, if_neg h1]) (fun x hx => by rw [sI_r, if_pos rfl, upd_r, if_neg hx]) (by rw [sI_r, if_pos rfl, pk_us]) (fun j => by rw [sI_r, if_neg (by decide)]; unfold prw; rw [if_neg (by omega)])
  have T98 := t1 98 (by decide) (by decide)
  have T99 := t1 99 (by decide) (by decide)
  have T100 := t1 100 (by decide) (by decide)
  refine e_M_prove (t_M_prove_0 (p_isThing1 (by rw [T98]; exact a) h16 hi (o1 ?_)))
  rw [T98, b, nI_1]
  have mk : ∀ (u : Hp), u = sI τ 98 43 (nI (now + 1)) → WP c_M_prove (CTs (55 + 4)) (fun r' σ2 => oI (some (.int (nI (now + 1)))) = oI r' ∧ Rel σ2) (22, [(0, .ref 98), (1, .int (nI i)), (2, .int (nI 0))], []) u := by
    intro u hu
    refine p_mprove (σ := τ) (n := n) (now := now) (by rw [T98]; exact a) (by rw [T98]; exact b) h60 (by rw [T99, T100]; exact tw) hi (fun u u2 u1 ux u43 ur => ?_) (now + 1) 0 u (by omega) (by rw [hu]; rfl) (fun c h1 _ _ _ _ => by rw [hu, sI_r, if_neg h1]) (fun x hx => by rw [hu, sI_r, if_pos rfl, upd_r, if_neg hx]) (by rw [hu, sI_r, if_pos rfl, pk_us]) (fun j => by rw [hu, sI_r, if_neg (by decide)]; unfold prw; rw [if_neg (by omega)])
    have all : ∀ c, c ≠ 0 → c ≠ 81 → c ≠ 98 → c ≠ 118 → c ≠ 109 → c ≠ 110 → c ≠ 111 → u.1 c = σ.1 c := fun c h1 h2 h3 h4 h5 h6 h7 => (u1 c h3 h4 h5 h6 h7).trans (t1 c h1 h2)
    have U0 : ∀ x, x ≠ 10 → u.1 0 x = σ.1 0 x := fun x hx => by rw [u1 0 (by decide) (by decide) (by decide) (by decide) (by decide)]; exact tx x hx
    have U98 : ∀ x, x ≠ 43 → u.1 98 x = σ.1 98 x := fun x hx => by rw [ux x hx, T98]
    have U2 : u.2 = σ.2 := u2.trans t2
    refine ⟨rfl, ⟨n, now, ne, hc.same (SameG.of (fun c hc => ?_) (fun q hq => ?_) U2)⟩, ?_, hkp.same (SameG.of (fun c hc => ?_) (fun q hq => ?_) U2)⟩
    · obtain ⟨b1, b2, b3, b4, b5, b6, b7⟩ := (by decide : ∀ c ∈ ([99, 100, 105, 106, 107, 108, 4, 5, 6, 7, 8, 9, 10, 11, 12, 13, 14, 15, 46, 47, 48, 49, 50, 51, 52, 53, 78] : List Nat), c ≠ 0 ∧ c ≠ 81 ∧ c ≠ 98 ∧ c ≠ 118 ∧ c ≠ 109 ∧ c ≠ 110 ∧ c ≠ 111) c hc
      exact all c b1 b2 b3 b4 b5 b6 b7
    · rcases (by decide : ∀ q ∈ ([(98, 0), (98, 19), (98, 25), (3, 0), (3, 1), (45, 0), (45, 4)] : List (Nat × Nat)), (q.1 = 98 ∧ q.2 ≠ 43) ∨ (q.1 ≠ 0 ∧ q.1 ≠ 81 ∧ q.1 ≠ 98 ∧ q.1 ≠ 118 ∧ q.1 ≠ 109 ∧ q.1 ≠ 110 ∧ q.1 ≠ 111)) q hq with ⟨e1, e2⟩ | ⟨b1, b2, b3, b4, b5, b6, b7⟩
      · rw [e1]; exact U98 q.2 e2
      · rw [all q.1 b1 b2 b3 b4 b5 b6 b7]
    · obtain ⟨g1, g2, ⟨kr, hk61, r1, r2, rr⟩, g4, g5, g6⟩ := hr
      have A : ∀ c, c ≠ 0 ∧ c ≠ 81 ∧ c ≠ 98 ∧ c ≠ 118 ∧ c ≠ 109 ∧ c ≠ 110 ∧ c ≠ 111 → u.1 c = σ.1 c := fun c h => all c h.1 h.2.1 h.2.2.1 h.2.2.2.1 h.2.2.2.2.1 h.2.2.2.2.2.1 h.2.2.2.2.2.2
      refine ⟨?_, ?_, ⟨now + 1, by omega, ?_, u43, fun j hj => ?_⟩, ?_, ?_, ?_⟩
      · rw [A 1 (by decide), U98 4 (by decide), A 2 (by decide), A 101 (by decide)]; exact g1
      · rw [A 1 (by decide), U98 10 (by decide), U98 11 (by decide)]; exact g2
      · rw [u1 0 (by decide) (by decide) (by decide) (by decide) (by decide)]; exact t10
      · rw [u1 81 (by decide) (by decide) (by decide) (by decide) (by decide), tr j, ur j, t1 118 (by decide) (by decide)]
        unfold prw
        rw [rr j hj]
        by_cases e : j < 2 * (now + 1)
        · rw [if_pos e, if_pos e, wasV_off (σ := σ) (τ := τ) (fun c hc => t1 c (by omega) (by omega))]
        · rw [if_neg e, if_neg e]
      · rw [A 82 (by decide), A 83 (by decide), A 84 (by decide), A 119 (by decide), A 120 (by decide), U2]; exact g4
      · rw [A 85 (by decide), A 86 (by decide), A 87 (by decide), A 122 (by decide), A 123 (by decide), A 124 (by decide)]; exact g5
      · rw [A 88 (by decide), U98 54 (by decide), A 89 (by decide), A 125 (by decide)]; exact g6
    · obtain ⟨b1, b2, b3, b4, b5, b6, b7⟩ := (by decide : ∀ c ∈ ([126, 80, 32, 33, 34, 35, 36, 37, 38, 39, 40, 41, 42, 43, 68, 69, 70, 71, 72, 73, 74, 75] : List Nat), c ≠ 0 ∧ c ≠ 81 ∧ c ≠ 98 ∧ c ≠ 118 ∧ c ≠ 109 ∧ c ≠ 110 ∧ c ≠ 111) c hc
      exact all c b1 b2 b3 b4 b5 b6 b7
    · rcases (by decide : ∀ q ∈ ([(0, 6), (98, 56), (31, 0), (31, 1), (67, 0), (67, 4)] : List (Nat × Nat)), (q.1 = 98 ∧ q.2 ≠ 43) ∨ (q.1 = 0 ∧ q.2 ≠ 10) ∨ (q.1 ≠ 0 ∧ q.1 ≠ 81 ∧ q.1 ≠ 98 ∧ q.1 ≠ 118 ∧ q.1 ≠ 109 ∧ q.1 ≠ 110 ∧ q.1 ≠ 111)) q hq with ⟨e1, e2⟩ | ⟨e1, e2⟩ | ⟨b1, b2, b3, b4, b5, b6, b7⟩
      · rw [e1]; exact U98 q.2 e2
      · rw [e1]; exact U0 q.2 e2
      · rw [all q.1 b1 b2 b3 b4 b5 b6 b7]
  exact mk _ rfl
def jdg (rw wv : Nat → Int32) (now : Nat) : Nat → Nat → Int32
  | 0, k => if now < k then 0 else 222
  | c + 1, k => if rw (2 * k) = nI k ∧ k ≤ now ∧ rw (2 * k + 1) = wv k then jdg rw wv now c (k + 1) else nI (k + 1)
theorem p_sjudge {d : Nat} {K : Po} {σ : Hp} {n now i r : Nat} (h16 : n ≤ 16) (hnow : σ.1 45 0 = nI now) (h60 : now ≤ 60) (hi : i < n) (hv : ∀ i, i < n → σ.1 50 i = vto (σ.1 99) (σ.1 100) (σ.1 105) (σ.1 106) now n i) (ps : PST n now (σ.1 108) (σ.1 78)) (hr : σ.1 0 10 = nI r) (hr61 : r ≤ 61) : ∀ (c k : Nat), k + c = r → K (some (.int (jdg (σ.1 81) (wasV σ n now i) now c k))) σ → WP c_SS_judge (CTs (d + 1)) K (15, [(0, .ref 0), (1, .int (nI i)), (2, .int (nI k))], []) σ := by
  intro c
  induction c with
  | zero =>
    intro k hk q
    have ek : k = r := by omega
    refine t_SS_judge_15 ?_
    rw [hr, hnow, ek]
    rw [ek] at q
    refine ifp (Int32.le_refl _) (ite2 (fun e => ?_) (fun e => ?_))
    · rw [show jdg (σ.1 81) (wasV σ n now i) now 0 r = 0 from if_pos ((nI_ltI (by omega) (by omega)).mp e)] at q; exact q
    · rw [show jdg (σ.1 81) (wasV σ n now i) now 0 r = 222 from if_neg (fun z => e ((nI_ltI (by omega) (by omega)).mpr z))] at q; exact q
  | succ c ih =>
    intro k hk q
    obtain ⟨x1, x2, x3, x4⟩ := ix2 (k := k) (by omega)
    refine t_SS_judge_15 ?_
    rw [hr, hnow, x3, x4, nI_1 k]
    have no : ¬ (σ.1 81 (2 * k) = nI k ∧ k ≤ now ∧ σ.1 81 (2 * k + 1) = wasV σ n now i k) → K (some (.int (nI (k + 1)))) σ := fun z => by
      rw [show jdg (σ.1 81) (wasV σ n now i) now (c + 1) k = nI (k + 1) from if_neg z] at q; exact q
    refine ifn (nI_ge (by omega) (by omega)) ⟨x1, ite2 (fun e1 => ite2 (fun e2 => no (fun z => absurd z.2.1 (by have := (nI_ltI (by omega) (by omega)).mp e2; omega))) (fun e2 => ⟨x2, ?_⟩)) (fun e1 => no (fun z => e1 z.1))⟩
    have hle : k ≤ now := Nat.le_of_not_lt (fun z => e2 (nI_lt z (by omega)))
    refine p_then h16 hnow h60 hi hle hv ps (ite2 (fun e3 => ih (k + 1) (by omega) ?_) (fun e3 => no (fun z => e3 z.2.2)))
    rw [show jdg (σ.1 81) (wasV σ n now i) now (c + 1) k = jdg (σ.1 81) (wasV σ n now i) now c (k + 1) from if_pos ⟨e1, hle, e3⟩] at q; exact q
theorem p_mjudge {d : Nat} {K : Po} {σ : Hp} {n now i r : Nat} (hn : σ.1 98 0 = nI n) (hnow : σ.1 98 19 = nI now) (h60 : now ≤ 60) (tw : TW n (σ.1 99) (σ.1 100)) (hi : i < n) (hr : σ.1 98 43 = nI r) (hr61 : r ≤ 61) : ∀ (c k : Nat) (τ : Hp), k + c = r → FrV σ τ → (∀ u : Hp, FrV σ u → K (some (.int (jdg (σ.1 118) (wasV σ n now i) now c k))) u) → WP c_M_judge (CTs (d + 5)) K (12, [(0, .ref 98), (1, .int (nI i)), (2, .int (nI k))], []) τ := by
  intro c
  induction c with
  | zero =>
    intro k τ hk f q
    have ek : k = r := by omega
    have q := q τ f
    refine t_M_judge_12 ?_
    rw [f.2 98 (by decide) (by decide) (by decide), hr, hnow, ek]
    rw [ek] at q
    refine ifp (Int32.le_refl _) (ite2 (fun e => ?_) (fun e => ?_))
    · rw [show jdg (σ.1 118) (wasV σ n now i) now 0 r = 0 from if_pos ((nI_ltI (by omega) (by omega)).mp e)] at q; exact q
    · rw [show jdg (σ.1 118) (wasV σ n now i) now 0 r = 222 from if_neg (fun z => e ((nI_ltI (by omega) (by omega)).mpr z))] at q; exact q
  | succ c ih =>
    intro k τ hk f q
    obtain ⟨x1, x2, x3, x4⟩ := ix2 (k := k) (by omega)
    have T98 := f.2 98 (by decide) (by decide) (by decide)
    have T99 := f.2 99 (by decide) (by decide) (by decide)
    have T100 := f.2 100 (by decide) (by decide) (by decide)
    refine t_M_judge_12 ?_
    rw [T98, f.2 118 (by decide) (by decide) (by decide), hr, hnow, x3, x4, nI_1 k]
    have no : ¬ (σ.1 118 (2 * k) = nI k ∧ k ≤ now ∧ σ.1 118 (2 * k + 1) = wasV σ n now i k) → ∀ u, FrV σ u → K (some (.int (nI (k + 1)))) u := fun z u fu => by
      have q := q u fu
      rw [show jdg (σ.1 118) (wasV σ n now i) now (c + 1) k = nI (k + 1) from if_neg z] at q; exact q
    refine ifn (nI_ge (by omega) (by omega)) ⟨x1, ite2 (fun e1 => ite2 (fun e2 => no (fun z => absurd z.2.1 (by have := (nI_ltI (by omega) (by omega)).mp e2; omega)) τ f) (fun e2 => ⟨x2, ?_⟩)) (fun e1 => no (fun z => e1 z.1) τ f)⟩
    have hle : k ≤ now := Nat.le_of_not_lt (fun z => e2 (nI_lt z (by omega)))
    refine p_was (n := n) (now := now) (by rw [T98]; exact hn) (by rw [T98]; exact hnow) h60 (by rw [T99, T100]; exact tw) hi hle (fun u fu => ?_)
    have fu' : FrV σ u := ⟨fu.1.trans f.1, fun c h1 h2 h3 => (fu.2 c h1 h2 h3).trans (f.2 c h1 h2 h3)⟩
    rw [wasV_off (σ := σ) (fun c hc => f.2 c (by omega) (by omega) (by omega))]
    refine ite2 (fun e3 => ih (k + 1) u (by omega) fu' (fun y fy => ?_)) (fun e3 => no (fun z => e3 z.2.2) u fu')
    have q := q y fy
    rw [show jdg (σ.1 118) (wasV σ n now i) now (c + 1) k = jdg (σ.1 118) (wasV σ n now i) now c (k + 1) from if_pos ⟨e1, hle, e3⟩] at q; exact q
theorem jdg_cong {r r' w : Nat → Int32} {now : Nat} : ∀ (c k : Nat), k + c ≤ 61 → (∀ j, j < 122 → r j = r' j) → jdg r w now c k = jdg r' w now c k := by
  intro c
  induction c with
  | zero => intros; rfl
  | succ c ih =>
    intro k hk h
    show (if r (2 * k) = nI k ∧ k ≤ now ∧ r (2 * k + 1) = w k then jdg r w now c (k + 1) else nI (k + 1)) = (if r' (2 * k) = nI k ∧ k ≤ now ∧ r' (2 * k + 1) = w k then jdg r' w now c (k + 1) else nI (k + 1))
    rw [h (2 * k) (by omega), h (2 * k + 1) (by omega), ih (k + 1) (by omega) h]
theorem op_judge : O_judge Rel := by
  intro σ a1 h
  obtain ⟨⟨n, now, ne, hc⟩, hr, hkp⟩ := id h
  obtain ⟨a, b, c, ⟨tw, cx, mw, cw, ps, h60⟩, wl⟩ := id hc
  obtain ⟨r, r61, r1, r2, rr⟩ := hr.2.2.1
  have h16 := tw.1
  refine e_SS_judge (t_SS_judge_0 ?_)
  rcases ixc a1 (n := n) (by omega) with z | ⟨i, hi, rfl⟩
  · exact p_has0 (Or.inl rfl) cx.1 z (o0 (e_M_judge (t_M_judge_0 (p_isThing0 a h16 z (o0 ⟨rfl, h⟩)))))
  refine p_has1 (Or.inl rfl) cx.1 h16 hi (o1 (p_sjudge (n := n) (now := now) h16 cw.1 h60 hi cw.2.2.2.2.1 ps r1 r61 r 0 (by omega) ?_))
  refine e_M_judge (t_M_judge_0 (p_isThing1 a h16 hi (o1 (p_mjudge (σ := σ) (n := n) (now := now) a b h60 tw hi r2 r61 r 0 σ (by omega) ⟨rfl, fun _ _ _ _ => rfl⟩ (fun u fu => ⟨?_, h.fv fu⟩)))))
  exact jdg_cong r 0 (by omega) rr
