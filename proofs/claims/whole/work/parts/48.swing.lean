/-! ===== swing ===== -/
def alk (th A B : Nat → Int32) : Nat → Nat → Int32
  | 0, _ => 1
  | c + 1, k => if th (20 * k) = 1 ∧ ¬ A k = B k then 0 else alk th A B c (k + 1)
theorem alk_sym {th A B : Nat → Int32} : ∀ c k, alk th A B c k = alk th B A c k := by
  intro c
  induction c with
  | zero => intro k; rfl
  | succ c ih =>
    intro k
    show (if th (20 * k) = 1 ∧ ¬ A k = B k then 0 else alk th A B c (k + 1)) = (if th (20 * k) = 1 ∧ ¬ B k = A k then 0 else alk th B A c (k + 1))
    rw [ih]
    by_cases h : th (20 * k) = 1 ∧ ¬ A k = B k
    · rw [if_pos h, if_pos ⟨h.1, fun z => h.2 z.symm⟩]
    · rw [if_neg h, if_neg (fun z => h ⟨z.1, fun y => z.2 y.symm⟩)]
def swF (al : Nat → Int32) : Nat → Option Nat
  | 0 => none
  | j + 1 => if al j = 0 then swF al j else some j
def swg (al : Nat → Nat → Int32) : Nat → Nat → Option (Nat × Nat)
  | 0, _ => none
  | c + 1, k => match swF (al k) k with
    | some j => some (k, j)
    | none => swg al c (k + 1)
def swR (w : Nat) : Option (Nat × Nat) → Int32
  | none => -3
  | some (k, j) => if w = 0 then nI k else nI k - nI j
theorem ix16 {s i : Nat} (hs : s < 61) (hi : i < 16) : vp_in (nI s * (16 : Int32) + nI i) 976 ∧ (nI s * (16 : Int32) + nI i).toNatClampNeg = 16 * s + i ∧ vp_in ((16 : Int32) * nI s + nI i) 976 ∧ ((16 : Int32) * nI s + nI i).toNatClampNeg = 16 * s + i := by
  have e1 : nI s * (16 : Int32) + nI i = nI (16 * s + i) := by rw [show (16 : Int32) = nI 16 from rfl, pk_mul, nI_add, Nat.mul_comm]
  have e2 : (16 : Int32) * nI s + nI i = nI (16 * s + i) := by rw [show (16 : Int32) = nI 16 from rfl, pk_mul, nI_add]
  rw [e1, e2]
  exact ⟨vp_in_nI (by omega) (by omega), nI_clamp (by omega), vp_in_nI (by omega) (by omega), nI_clamp (by omega)⟩
theorem p_same {d : Nat} {K : Po} {σ : Hp} {n x y : Nat} {th A B : Nat → Int32} (h16 : n ≤ 16) (hn : σ.1 3 0 = nI n) (hk : ∀ i, i < n → σ.1 4 i = th (20 * i)) (hx : x < 61) (hy : y < 61) (hA : ∀ i, i < n → th (20 * i) = 1 → σ.1 79 (16 * x + i) = A i) (hB : ∀ i, i < n → th (20 * i) = 1 → σ.1 79 (16 * y + i) = B i) (q : K (some (.int (alk th A B n 0))) σ) : CTs (d + 1) y_SS_sameStores [.ref 0, .int (nI x), .int (nI y)] σ K := by
  refine e_SS_sameStores (t_SS_sameStores_0 ?_)
  have key : ∀ c k, k + c = n → K (some (.int (alk th A B c k))) σ → WP c_SS_sameStores (CTs d) K (2, [(0, .ref 0), (1, .int (nI x)), (2, .int (nI y)), (3, .int (nI k))], []) σ := by
    intro c
    induction c with
    | zero =>
      intro k hk q
      have ek : k = n := by omega
      refine t_SS_sameStores_2 ?_
      rw [hn, ek]
      exact ifp (Int32.le_refl _) ⟨vb1, q⟩
    | succ c ih =>
      intro k hkn q
      have q' : K (some (.int (if th (20 * k) = 1 ∧ ¬ A k = B k then 0 else alk th A B c (k + 1)))) σ := q
      obtain ⟨x1, x2, -, -⟩ := ix16 (s := x) (i := k) hx (by omega)
      obtain ⟨y1, y2, -, -⟩ := ix16 (s := y) (i := k) hy (by omega)
      refine t_SS_sameStores_2 ?_
      rw [hn, nI_1, nI_clamp (n := k) (by omega), hk k (by omega), x2, y2]
      refine ifn (nI_ge (by omega) (by omega)) ⟨vp_in_nI (by omega) (by omega), ite2 (fun e1 => ⟨x1, y1, ?_⟩) (fun e1 => ?_)⟩
      · rw [hA k (by omega) e1, hB k (by omega) e1]
        refine ite2 (fun e => ih (k + 1) (by omega) ?_) (fun e => ⟨vb0, ?_⟩)
        · rw [if_neg (fun z => z.2 e)] at q'; exact q'
        · rw [if_pos ⟨e1, e⟩] at q'; exact q'
      · rw [if_neg (fun z => e1 z.1)] at q'
        exact ih (k + 1) (by omega) q'
  exact key n 0 (by omega) q
theorem p_alike {d : Nat} {K : Po} {σ : Hp} {n x y : Nat} {th A B : Nat → Int32} (h16 : n ≤ 16) (hn : σ.1 98 0 = nI n) (hth : σ.1 99 = th) (hx : x < 61) (hy : y < 61) (hA : ∀ i, i < n → σ.1 117 (16 * x + i) = A i) (hB : ∀ i, i < n → σ.1 117 (16 * y + i) = B i) (q : K (some (.int (alk th A B n 0))) σ) : CTs (d + 2) y_M_isAlike [.ref 98, .int (nI x), .int (nI y)] σ K := by
  refine e_M_isAlike (t_M_isAlike_0 ?_)
  have key : ∀ c k, k + c = n → K (some (.int (alk th A B c k))) σ → WP c_M_isAlike (CTs (d + 1)) K (2, [(0, .ref 98), (1, .int (nI x)), (2, .int (nI y)), (3, .int (nI k))], []) σ := by
    intro c
    induction c with
    | zero =>
      intro k hk q
      have ek : k = n := by omega
      refine t_M_isAlike_2 ?_
      rw [hn, ek]
      exact ifp (Int32.le_refl _) ⟨vb1, q⟩
    | succ c ih =>
      intro k hkn q
      have q' : K (some (.int (if th (20 * k) = 1 ∧ ¬ A k = B k then 0 else alk th A B c (k + 1)))) σ := q
      obtain ⟨-, -, x1, x2⟩ := ix16 (s := x) (i := k) hx (by omega)
      obtain ⟨-, -, y1, y2⟩ := ix16 (s := y) (i := k) hy (by omega)
      refine t_M_isAlike_2 ?_
      rw [hn, nI_1]
      refine ifn (nI_ge (by omega) (by omega)) (p_of (w := 0) (by omega) (by omega) ?_)
      rw [x2, y2, hth, hA k (by omega), hB k (by omega)]
      refine ite2 (fun e1 => ⟨x1, y1, ite2 (fun e => ih (k + 1) (by omega) ?_) (fun e => ⟨vb0, ?_⟩)⟩) (fun e1 => ih (k + 1) (by omega) ?_)
      · rw [if_neg (fun z => z.2 e)] at q'; exact q'
      · rw [if_pos ⟨e1, e⟩] at q'; exact q'
      · rw [if_neg (fun z => e1 z.1)] at q'; exact q'
  exact key n 0 (by omega) q
theorem nI_m1' (j : Nat) : nI j + (-1) = nI j - 1 := by rw [Int32.sub_eq_add_neg]
theorem alk_b {th A B : Nat → Int32} : ∀ c k, alk th A B c k = 0 ∨ alk th A B c k = 1 := by
  intro c
  induction c with
  | zero => intro k; exact Or.inr rfl
  | succ c ih =>
    intro k
    show (if th (20 * k) = 1 ∧ ¬ A k = B k then 0 else alk th A B c (k + 1)) = 0 ∨ (if th (20 * k) = 1 ∧ ¬ A k = B k then 0 else alk th A B c (k + 1)) = 1
    by_cases h : th (20 * k) = 1 ∧ ¬ A k = B k
    · rw [if_pos h]; exact Or.inl rfl
    · rw [if_neg h]; exact ih (k + 1)
set_option maxHeartbeats 1000000 in
theorem p_sswing {d : Nat} {K : Po} {σ : Hp} {n ne m w : Nat} {th sg ev : Nat → Int32} {s : WS} (tw : TW n th sg) (cx : CX n th sg (fun j => σ.1 (3 + j))) (mw : MW n th s.1 ne ev) (h60 : s.2.2.1 ≤ 60) (hm : m ≤ 60) (hw2 : w < 2) (q : ∀ τ : Hp, (∀ c, c < 56 ∨ 66 < c → c ≠ 79 → τ.1 c = σ.1 c) → (∀ c, c ≠ 56 → c ≠ 65 → τ.2 c = σ.2 c) → K (some (.int (swR w (swg (fun k j => alk th (its n th sg ne ev k s).1 (its n th sg ne ev j s).1 n 0) m 1)))) τ) : ∀ (c k : Nat) (τ : Hp), k + 1 + c = m + 1 → (∀ c, c < 56 ∨ 66 < c → c ≠ 79 → τ.1 c = σ.1 c) → (∀ c, c ≠ 56 → c ≠ 65 → τ.2 c = σ.2 c) → CS n th sg ne ev (its n th sg ne ev k s) 56 τ → (∀ t, t ≤ k → ∀ i, i < n → th (20 * i) = 1 → τ.1 79 (16 * t + i) = (its n th sg ne ev t s).1 i) → swg (fun k j => alk th (its n th sg ne ev k s).1 (its n th sg ne ev j s).1 n 0) c (k + 1) = swg (fun k j => alk th (its n th sg ne ev k s).1 (its n th sg ne ev j s).1 n 0) m 1 → WP c_SS_swing (CTs (d + 5)) K (52, [(0, .ref 0), (1, .int (nI m)), (2, .int (nI w)), (3, .int (nI (k + 1)))], []) τ := by
  have h16 := tw.1
  intro c
  induction c with
  | zero =>
    intro k τ hk t1 t2 ck tr e
    refine t_SS_swing_52 (ifp (nI_lt (by omega) (by omega)) ?_)
    have := q τ t1 t2
    rw [← e] at this
    exact this
  | succ c ih =>
    intro k τ hk t1 t2 ck tr e
    have cxt : CX n th sg (fun j => τ.1 (3 + j)) := cx.off (fun c h1 h2 => t1 c (by omega) (by omega))
    have e16 : nI (k + 1) * (16 : Int32) = nI (16 * (k + 1)) := by rw [show (16 : Int32) = nI 16 from rfl, pk_mul, Nat.mul_comm]
    refine t_SS_swing_52 ?_
    rw [e16, nI_clamp (n := 16 * (k + 1)) (by omega)]
    refine ifn (nI_nlt (by omega) (by omega)) (c_adv (Or.inr rfl) tw cxt ck (its_MW tw mw k) (by rw [its_now]; omega) (fun u fu cu => ⟨⟨by decide, nI_pos (by omega), by decide, by decide, by show 16 * (k + 1) + 16 ≤ 976; omega⟩, ?_⟩))
    generalize hH : sC u 79 (va_cpy (u.1 60) (u.1 79) (0 : Int32).toNatClampNeg (16 * (k + 1)) (16 : Int32).toNatClampNeg) = H
    have r1 : ∀ c, c ≠ 79 → H.1 c = u.1 c := fun c hc => by rw [← hH, sC_r, if_neg hc]
    have r2 : H.2 = u.2 := by rw [← hH, sC_l]
    have H1 : ∀ c, c < 56 ∨ 66 < c → c ≠ 79 → H.1 c = σ.1 c := fun c h1 h2 => (r1 c h2).trans ((fu.1 c (by omega)).trans (t1 c h1 h2))
    have H2 : ∀ c, c ≠ 56 → c ≠ 65 → H.2 c = σ.2 c := fun c h1 h2 => by rw [r2, fu.2 c h1 h2]; exact t2 c h1 h2
    have HC : CS n th sg ne ev (its n th sg ne ev (k + 1) s) 56 H := cu.off (fun c h1 h2 => r1 c (by omega)) (by rw [r2])
    have HR : ∀ t, t ≤ k + 1 → ∀ i, i < n → th (20 * i) = 1 → H.1 79 (16 * t + i) = (its n th sg ne ev t s).1 i := fun t ht i hi e1 => by
      rw [← hH, sC_r, if_pos rfl]
      by_cases et : t = k + 1
      · rw [pk_cpy_in (by omega) (by show 16 * t + i < 16 * (k + 1) + 16; omega)]
        show u.1 60 (0 + (16 * t + i - 16 * (k + 1))) = _
        rw [show 0 + (16 * t + i - 16 * (k + 1)) = i by omega, et]
        exact cu.1.2.2.2.1 i hi (Or.inl e1)
      · rw [pk_cpy_out (by show _ ∨ 16 * (k + 1) + 16 ≤ _; omega), fu.1 79 (by omega)]
        exact tr t (by omega) i hi e1
    have cxH : CX n th sg (fun j => H.1 (3 + j)) := cx.off (fun c h1 h2 => H1 c (by omega) (by omega))
    have e' : (match swF (fun j => alk th (its n th sg ne ev (k + 1) s).1 (its n th sg ne ev j s).1 n 0) (k + 1) with
      | some j => some (k + 1, j)
      | none => swg (fun k j => alk th (its n th sg ne ev k s).1 (its n th sg ne ev j s).1 n 0) c (k + 1 + 1)) = swg (fun k j => alk th (its n th sg ne ev k s).1 (its n th sg ne ev j s).1 n 0) m 1 := e
    have k95 : ∀ j, j ≤ k + 1 → swF (fun j => alk th (its n th sg ne ev (k + 1) s).1 (its n th sg ne ev j s).1 n 0) j = swF (fun j => alk th (its n th sg ne ev (k + 1) s).1 (its n th sg ne ev j s).1 n 0) (k + 1) → WP c_SS_swing (CTs (d + 5)) K (95, [(0, .ref 0), (1, .int (nI m)), (2, .int (nI w)), (3, .int (nI (k + 1))), (4, .int (nI j - 1))], []) H := by
      intro j
      induction j with
      | zero =>
        intro _ ej
        refine t_SS_swing_95 (ifp (by decide) ?_)
        rw [nI_1]
        refine ih (k + 1) H (by omega) H1 H2 HC HR ?_
        rw [← ej] at e'
        exact e'
      | succ j ihj =>
        intro hj ej
        refine t_SS_swing_95 ?_
        rw [nI_pred, nI_m1']
        refine ifn (nI_pos (by omega)) (p_same (n := n) (th := th) (A := (its n th sg ne ev (k + 1) s).1) (B := (its n th sg ne ev j s).1) h16 cxH.n (fun i hi => cxH.k hi) (by omega) (by omega) (fun i hi e1 => HR (k + 1) (Nat.le_refl _) i hi e1) (fun i hi e1 => HR j (by omega) i hi e1) (ite2 (fun e0 => ?_) (fun e0 => ?_)))
        · refine ihj (by omega) ?_
          rw [← ej]
          show _ = (if alk th (its n th sg ne ev (k + 1) s).1 (its n th sg ne ev j s).1 n 0 = 0 then swF _ j else some j)
          rw [if_pos (show alk th (its n th sg ne ev (k + 1) s).1 (its n th sg ne ev j s).1 n 0 = 0 from e0)]
        · have ej' : some j = swF (fun j => alk th (its n th sg ne ev (k + 1) s).1 (its n th sg ne ev j s).1 n 0) (k + 1) := by
            rw [← ej]
            show _ = (if alk th (its n th sg ne ev (k + 1) s).1 (its n th sg ne ev j s).1 n 0 = 0 then swF _ j else some j)
            rw [if_neg (show ¬ alk th (its n th sg ne ev (k + 1) s).1 (its n th sg ne ev j s).1 n 0 = 0 from e0)]
          rw [← ej'] at e'
          have hq := q H H1 H2
          rw [← e'] at hq
          have hq2 : K (some (.int (if w = 0 then nI (k + 1) else nI (k + 1) - nI j))) H := hq
          match w, hw2, hq2 with
          | 0, _, hq2 => exact ifp rfl hq2
          | 1, _, hq2 => exact ifn (by decide) hq2
    exact k95 (k + 1) (Nat.le_refl _) rfl
set_option maxHeartbeats 2000000 in
theorem p_mswing {d : Nat} {K : Po} {σ : Hp} {n ne m w : Nat} {th sg ev : Nat → Int32} {s : WS} (tw : TW n th sg) (tx : TxM n th sg ne ev σ) (mw : MW n th s.1 ne ev) (h60 : s.2.2.1 ≤ 60) (hm : m ≤ 60) (hw2 : w < 2) (q : ∀ τ : Hp, FrN σ τ → τ.1 108 = σ.1 108 → MS s τ → K (some (.int (swR w (swg (fun k j => alk th (its n th sg ne ev k s).1 (its n th sg ne ev j s).1 n 0) (m + 1) 0)))) τ) : ∀ (c k : Nat) (τ : Hp), k + c = m + 1 → FrN σ τ → τ.1 108 = σ.1 108 → MS (its n th sg ne ev k s) τ → SV s τ → (∀ t, t < k → ∀ i, i < n → τ.1 117 (16 * t + i) = (its n th sg ne ev t s).1 i) → swg (fun k j => alk th (its n th sg ne ev k s).1 (its n th sg ne ev j s).1 n 0) c k = swg (fun k j => alk th (its n th sg ne ev k s).1 (its n th sg ne ev j s).1 n 0) (m + 1) 0 → WP c_M_swing (CTs (d + 5)) K (34, [(0, .ref 98), (1, .int (nI m)), (2, .int (nI w)), (3, .int (-3)), (4, .int 0), (5, .int (nI k))], []) τ := by
  have h16 := tw.1
  have fnd : ∀ (k j : Nat) (τ : Hp), k ≤ m → some (k, j) = swg (fun k j => alk th (its n th sg ne ev k s).1 (its n th sg ne ev j s).1 n 0) (m + 1) 0 → FrN σ τ → τ.1 108 = σ.1 108 → MS (its n th sg ne ev (k + 1) s) τ → SV s τ → WP c_M_swing (CTs (d + 5)) K (34, [(0, .ref 98), (1, .int (nI m)), (2, .int (nI w)), (3, .int (nI k)), (4, .int (nI k - nI j)), (5, .int (nI (k + 1)))], []) τ := by
    intro k j τ hk e f f8 mk sv
    have fin : CTs (d + 5) y_M_putBack [.ref 98] τ (fun _ σ2 => (if 0 ≤ nI k then ((if nI w = 0 then (K (some (.int (nI k))) σ2) else (K (some (.int (nI k - nI j))) σ2))) else (K (some (.int (-3))) σ2))) := by
      refine m_back mk (its_Out tw mw Out.rf (k + 1)) sv (fun y fy y8 my => ifp (nI_pos' (by omega)) ?_)
      have hq := q y (f.tr fy) (y8.trans f8) my
      rw [← e] at hq
      have hq2 : K (some (.int (if w = 0 then nI k else nI k - nI j))) y := hq
      match w, hw2, hq2 with
      | 0, _, hq2 => exact ifp rfl hq2
      | 1, _, hq2 => exact ifn (by decide) hq2
    exact t_M_swing_34 (ite2 (fun _ => fin) (fun _ => ifp (nI_pos' (by omega)) fin))
  intro c
  induction c with
  | zero =>
    intro k τ hk f f8 mk sv tr e
    refine t_M_swing_34 (ifp (nI_lt (by omega) (by omega)) (m_back mk (its_Out tw mw Out.rf k) sv (fun y fy y8 my => ifn (by decide) ?_)))
    have hq := q y (f.tr fy) (y8.trans f8) my
    rw [← e] at hq
    exact hq
  | succ c ih =>
    intro k τ hk f f8 mk sv tr e
    have e' : (match swF (fun j => alk th (its n th sg ne ev k s).1 (its n th sg ne ev j s).1 n 0) k with
      | some j => some (k, j)
      | none => swg (fun k j => alk th (its n th sg ne ev k s).1 (its n th sg ne ev j s).1 n 0) c (k + 1)) = swg (fun k j => alk th (its n th sg ne ev k s).1 (its n th sg ne ev j s).1 n 0) (m + 1) 0 := e
    refine t_M_swing_34 (ifn (nI_nlt (by omega) (by omega)) (ifn (by decide) ?_))
    have k47 : ∀ (c2 i : Nat) (u : Hp), i + c2 = n → (∀ c, c ≠ 117 → u.1 c = τ.1 c) → u.2 = τ.2 → (∀ t, t < k → ∀ i, i < n → u.1 117 (16 * t + i) = (its n th sg ne ev t s).1 i) → (∀ j, j < i → u.1 117 (16 * k + j) = (its n th sg ne ev k s).1 j) → WP c_M_swing (CTs (d + 5)) K (47, [(0, .ref 98), (1, .int (nI m)), (2, .int (nI w)), (3, .int (-3)), (4, .int 0), (5, .int (nI k)), (6, .int (nI i))], []) u := by
      intro c2
      induction c2 with
      | zero =>
        intro i u hi u1 u2 ur uk
        have ei : i = n := by omega
        rw [ei] at uk ⊢
        have fu : FrN τ u := ⟨fun c h => u1 c (by omega), fun x _ _ => by rw [u1 98 (by decide)], fun c _ _ => by rw [u2], fun x _ _ _ _ _ _ => by rw [u2]⟩
        have mu : MS (its n th sg ne ev k s) u := mk.off (u1 105 (by decide)) (u1 106 (by decide)) (by rw [u1 98 (by decide)]) (by rw [u2])
        have su : SV s u := ⟨by rw [u1 98 (by decide)]; exact sv.1, fun x hx => by rw [u1 115 (by decide)]; exact sv.2.1 x hx, fun x hx => by rw [u1 116 (by decide)]; exact sv.2.2.1 x hx, by rw [u2]; exact sv.2.2.2.1, by rw [u2]; exact sv.2.2.2.2.1, by rw [u2]; exact sv.2.2.2.2.2⟩
        have txu := (tx.frN f).frN fu
        have u8 : u.1 108 = σ.1 108 := (u1 108 (by decide)).trans f8
        have HR : ∀ t, t ≤ k → ∀ i, i < n → u.1 117 (16 * t + i) = (its n th sg ne ev t s).1 i := fun t ht i hi => by
          by_cases et : t = k
          · rw [et]; exact uk i hi
          · exact ur t (by omega) i hi
        refine t_M_swing_47 ?_
        rw [txu.1]
        refine ifp (Int32.le_refl _) ?_
        have stepk : ∀ (K2 : Po), (∀ y, FrN σ y → y.1 108 = σ.1 108 → MS (its n th sg ne ev (k + 1) s) y → SV s y → (∀ t, t < k + 1 → ∀ i, i < n → y.1 117 (16 * t + i) = (its n th sg ne ev t s).1 i) → ∀ r, K2 r y) → CTs (d + 5) y_M_steps [.ref 98] u K2 := by
          intro K2 hK
          refine m_adv tw txu mu (its_MW tw mw k) (by rw [its_now]; omega) (fun y fy my => hK y ((f.tr fu).tr fy.N) ((fy.1 108 (by decide) (by decide) (by decide) (by decide) (by decide) (by decide)).trans u8) my (su.frM fy) (fun t ht i hi => ?_) _)
          rw [fy.1 117 (by decide) (by decide) (by decide) (by decide) (by decide) (by decide)]
          exact HR t (by omega) i hi
        have k88 : ∀ j, j ≤ k → swF (fun j => alk th (its n th sg ne ev k s).1 (its n th sg ne ev j s).1 n 0) j = swF (fun j => alk th (its n th sg ne ev k s).1 (its n th sg ne ev j s).1 n 0) k → WP c_M_swing (CTs (d + 5)) K (88, [(0, .ref 98), (1, .int (nI m)), (2, .int (nI w)), (3, .int (-3)), (4, .int 0), (5, .int (nI k)), (6, .int (nI j - 1))], []) u := by
          intro j
          induction j with
          | zero =>
            intro _ ej
            refine t_M_swing_88 (ifp (by decide) (stepk _ (fun y fy y8 my sy ry r => ?_)))
            rw [nI_1]
            refine ih (k + 1) y (by omega) fy y8 my sy ry ?_
            rw [← ej] at e'
            exact e'
          | succ j ihj =>
            intro hj ej
            refine t_M_swing_88 ?_
            rw [nI_pred, nI_m1']
            refine ifn (nI_pos (by omega)) (ifn (by decide) (p_alike (n := n) (th := th) (A := (its n th sg ne ev j s).1) (B := (its n th sg ne ev k s).1) h16 txu.1 txu.2.1 (by omega) (by omega) (fun i hi => HR j (by omega) i hi) (fun i hi => HR k (Nat.le_refl _) i hi) ?_))
            rw [alk_sym]
            refine ite2 (fun e0 => ?_) (fun e0 => ?_)
            · refine ihj (by omega) ?_
              rw [← ej]
              show _ = (if alk th (its n th sg ne ev k s).1 (its n th sg ne ev j s).1 n 0 = 0 then swF _ j else some j)
              rw [if_pos (show alk th (its n th sg ne ev k s).1 (its n th sg ne ev j s).1 n 0 = 0 from e0)]
            · have ej' : some j = swF (fun j => alk th (its n th sg ne ev k s).1 (its n th sg ne ev j s).1 n 0) k := by
                rw [← ej]
                show _ = (if alk th (its n th sg ne ev k s).1 (its n th sg ne ev j s).1 n 0 = 0 then swF _ j else some j)
                rw [if_neg (show ¬ alk th (its n th sg ne ev k s).1 (its n th sg ne ev j s).1 n 0 = 0 from e0)]
              rw [← ej'] at e'
              have go : CTs (d + 5) y_M_steps [.ref 98] u (fun _ σ1 => WP c_M_swing (CTs (d + 5)) K (34, [(0, .ref 98), (1, .int (nI m)), (2, .int (nI w)), (3, .int (nI k)), (4, .int (nI k - nI j)), (5, .int (nI k + 1))], []) σ1) := stepk _ (fun y fy y8 my sy ry r => by
                rw [nI_1]
                exact fnd k j y (by omega) e' fy y8 my sy)
              exact t_M_swing_88 (ite2 (fun _ => go) (fun _ => ifp (nI_pos' (by omega)) go))
        exact k88 k (Nat.le_refl _) rfl
      | succ c2 ih2 =>
        intro i u hi u1 u2 ur uk
        obtain ⟨-, -, x1, x2⟩ := ix16 (s := k) (i := i) (by omega) (by omega)
        refine t_M_swing_47 ?_
        rw [u1 98 (by decide), (tx.frN f).1, x2, nI_1 i, nI_clamp (n := i) (by omega), u1 105 (by decide), mk.1]
        refine ifn (nI_ge (by omega) (by omega)) ⟨vp_in_nI (by omega) (by omega), x1, ih2 (i + 1) _ (by omega) (fun c hc => by rw [sI_r, if_neg hc]; exact u1 c hc) u2 (fun t ht j hj => ?_) (fun j hj => ?_)⟩
        · rw [sI_r, if_pos rfl, upd_r, if_neg (by omega)]; exact ur t ht j hj
        · rw [sI_r, if_pos rfl, upd_r]
          by_cases ej : j = i
          · rw [if_pos (by omega), ej]
          · rw [if_neg (by omega)]; exact uk j (by omega)
    exact k47 n 0 τ (by omega) (fun _ _ => rfl) rfl tr (fun j hj => absurd hj (by omega))
theorem op_swing : O_swing Rel := by
  intro σ a1 a2 h
  obtain ⟨⟨n, now, ne, hc⟩, hr, hkp⟩ := id h
  obtain ⟨a, b, c, ⟨tw, cx, mw, cw, ps, h60⟩, wl⟩ := id hc
  have h16 := tw.1
  refine e_SS_swing (t_SS_swing_0 ?_)
  by_cases hin : a1 < 0 ∨ 60 < a1
  · have hm : CTs 60 y_M_swing [.ref 98, .int a1, .int a2] σ (fun r' σ2 => oI (some (.int (-1 : Int32))) = oI r' ∧ Rel σ2) := e_M_swing (t_M_swing_0 (p_in0 hin (o0 ⟨rfl, h⟩)))
    refine ite2 (fun _ => hm) (fun h1 => ifp ?_ hm)
    rcases hin with z | z
    · exact absurd z h1
    · exact z
  obtain ⟨m, hm, rfl⟩ := n60 hin
  have i1 : ¬ nI m < 0 := nI_pos (by omega)
  have i2 : ¬ 60 < nI m := nI_nlt (a := 60) hm (by omega)
  refine ifn i1 (ifn i2 ?_)
  rcases ixc a2 (n := 2) (by omega) with z | ⟨w, hw, rfl⟩
  · have hm : CTs 60 y_M_swing [.ref 98, .int (nI m), .int a2] σ (fun r' σ2 => oI (some (.int (-1 : Int32))) = oI r' ∧ Rel σ2) := e_M_swing (t_M_swing_0 (p_in1 i1 i2 (o1 (p_inN' (n := 2) rfl z (by omega) (o0 ⟨rfl, h⟩)))))
    refine ite2 (fun _ => hm) (fun h1 => ifn ?_ hm)
    rcases z with z | z
    · exact absurd z h1
    · intro y
      exact absurd (Int32.le_trans z y) (by decide)
  refine ifn (nI_pos (by omega)) (ifp (nI_le (b := 1) (by omega) (by omega)) (c_take tw mw.2.1 hc.cs (fun τ f ct => ⟨by decide, ?_⟩)))
  generalize hH : sC τ 79 (va_cpy (τ.1 60) (τ.1 79) (0 : Int32).toNatClampNeg (0 : Int32).toNatClampNeg (16 : Int32).toNatClampNeg) = H
  have r1 : ∀ c, c ≠ 79 → H.1 c = τ.1 c := fun c hc => by rw [← hH, sC_r, if_neg hc]
  have r2 : H.2 = τ.2 := by rw [← hH, sC_l]
  refine p_sswing (σ := σ) (s := wsOf σ now) (ne := ne) (ev := σ.1 107) tw cx mw h60 hm hw (fun u u1 u2 => ?_) m 0 H (by omega) (fun c h1 h2 => (r1 c h2).trans (f.1 c (by omega))) (fun c h1 h2 => by rw [r2]; exact f.2 c h1 h2) (ct.off (fun c h1 h2 => r1 c (by omega)) (by rw [r2])) (fun t ht i hi e1 => ?_) rfl
  · have fw : FrW σ u := ⟨fun c h1 h2 h3 => u1 c (by omega) h3, fun c h1 => u2 c (by omega) (by omega)⟩
    have tx := hc.tx.frW fw
    refine e_M_swing (t_M_swing_0 (p_in1 i1 i2 (o1 (p_inJ' (n := 2) rfl hw (by omega) (o1 (m_aside (hc.ms.frW fw) (fun v fv v8 mv sv => p_mswing (σ := v) (s := wsOf σ now) tw (tx.frN fv) mw h60 hm hw (fun y fy y8 my => ⟨?_, ?_⟩) (m + 1) 0 v (by omega) FrN.rf rfl mv sv (fun t ht => absurd ht (by omega)) rfl)))))))
    · rfl
    · exact Rel.thought hc hr hkp fw (fun c h1 h2 => u1 c (by omega) (by omega)) (u2 45 (by decide) (by decide)) (u1 78 (by omega) (by decide)) (fv.tr fy) (y8.trans v8) my
  · rw [← hH, sC_r, if_pos rfl, show t = 0 by omega]
    have : va_cpy (τ.1 60) (τ.1 79) (0 : Int32).toNatClampNeg (0 : Int32).toNatClampNeg (16 : Int32).toNatClampNeg (16 * 0 + i) = τ.1 60 (16 * 0 + i) := cpy0 (N := 16) (by omega)
    rw [this, show 16 * 0 + i = i by omega]
    exact ct.1.2.2.2.1 i hi (Or.inl e1)
