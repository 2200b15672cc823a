/-! ===== read ===== -/
theorem p_copyM {Q : Po} {n c : Nat} {σ : Hp} (hn : n ≤ 16) (hc : c ≤ 300) (h0 : σ.1 98 0 = nI n) (h14 : σ.1 98 14 = nI c)
    (q : ∀ τ : Hp, (∀ a, a ≠ 99 → a ≠ 100 → τ.1 a = σ.1 a) → τ.2 = σ.2 → (∀ y, y < 20 * n → τ.1 99 y = σ.1 102 y) → (∀ y, y < c → τ.1 100 y = σ.1 103 y) → CTs 11 y_M_beginAll [.ref 98] (sI (sI τ 98 25 0) 98 43 0) (fun _ σ1 => Q (some (.int (σ1.1 98 0))) σ1)) : WP c_M_read (CTs 11) Q (80, [(0, .ref 98), (1, .int 0)], []) σ := by
  have key2 : ∀ (k y : Nat) (τ : Hp), y + k = c → (∀ a, a ≠ 99 → a ≠ 100 → τ.1 a = σ.1 a) → τ.2 = σ.2 → (∀ y, y < 20 * n → τ.1 99 y = σ.1 102 y) → (∀ x, x < y → τ.1 100 x = σ.1 103 x) → WP c_M_read (CTs 11) Q (111, [(0, .ref 98), (1, .int (nI y))], []) τ := by
    intro k
    induction k with
    | zero =>
      intro y τ hy t1 t2 t3 t4
      have ey : y = c := by omega
      rw [ey] at t4 ⊢
      refine t_M_read_111 ?_
      rw [t1 98 (by decide) (by decide), h14]
      exact ifp (Int32.le_refl _) (q τ t1 t2 t3 t4)
    | succ k ih =>
      intro y τ hy t1 t2 t3 t4
      refine t_M_read_111 ?_
      rw [t1 98 (by decide) (by decide), h14, nI_1, nI_clamp (n := y) (by omega)]
      have hv : vp_in (nI y) 300 := vp_in_nI (by omega) (by omega)
      refine ifn (nI_ge (by omega) (by omega)) ⟨hv, hv, ih (y + 1) _ (by omega) (fun a a1 a2 => by rw [sI_r, if_neg a2]; exact t1 a a1 a2) t2 (fun x hx => by rw [sI_r, if_neg (by decide)]; exact t3 x hx) (fun x hx => ?_)⟩
      rw [sI_r, if_pos rfl, upd_r]
      by_cases e : x = y
      · rw [if_pos e, e, t1 103 (by decide) (by decide)]
      · rw [if_neg e]; exact t4 x (by omega)
  have e20 : (20 : Int32) * nI n = nI (20 * n) := by rw [show (20 : Int32) = nI 20 from rfl, pk_mul]
  have key1 : ∀ (k y : Nat) (τ : Hp), y + k = 20 * n → (∀ a, a ≠ 99 → τ.1 a = σ.1 a) → τ.2 = σ.2 → (∀ x, x < y → τ.1 99 x = σ.1 102 x) → WP c_M_read (CTs 11) Q (80, [(0, .ref 98), (1, .int (nI y))], []) τ := by
    intro k
    induction k with
    | zero =>
      intro y τ hy t1 t2 t3
      have ey : y = 20 * n := by omega
      rw [ey] at t3 ⊢
      refine t_M_read_80 ?_
      rw [t1 98 (by decide), h0, e20]
      exact ifp (Int32.le_refl _) (key2 c 0 τ (by omega) (fun a a1 _ => t1 a a1) t2 t3 (fun x hx => absurd hx (by omega)))
    | succ k ih =>
      intro y τ hy t1 t2 t3
      refine t_M_read_80 ?_
      rw [t1 98 (by decide), h0, e20, nI_1, nI_clamp (n := y) (by omega)]
      have hv : vp_in (nI y) 320 := vp_in_nI (by omega) (by omega)
      refine ifn (nI_ge (by omega) (by omega)) ⟨hv, hv, ih (y + 1) _ (by omega) (fun a a1 => by rw [sI_r, if_neg a1]; exact t1 a a1) t2 (fun x hx => ?_)⟩
      rw [sI_r, if_pos rfl, upd_r]
      by_cases e : x = y
      · rw [if_pos e, e, t1 102 (by decide)]
      · rw [if_neg e]; exact t3 x (by omega)
  exact key1 (20 * n) 0 σ (by omega) (fun _ _ => rfl) rfl (fun x hx => absurd hx (by omega))
theorem lay_cp {ρ : Rho} {n c j : Nat} {th sg : Nat → Int32} {σ : Hp} (v : VL ρ n c j) (h : ∀ i, i < n → RowM (ρ i) i σ) (h1 : ∀ y, y < 20 * n → th y = σ.1 102 y) (h2 : ∀ y, y < c → sg y = σ.1 103 y) : Lay ρ n th sg := by
  intro i hi
  obtain ⟨a0, a1, a2, a3, a4, a5, a6, a7, a8, a9⟩ := h i hi
  obtain ⟨⟨-, -, -, -, -, -, -, -, -, -, d4⟩, vc, -⟩ := v.2.2.1 i hi
  refine ⟨(h1 _ (by omega)).trans a0, (h1 _ (by omega)).trans a1, (h1 _ (by omega)).trans a2, fun z => (h1 _ (by omega)).trans (a3 z), (h1 _ (by omega)).trans a4, (h1 _ (by omega)).trans a5, (h1 _ (by omega)).trans a6, (h1 _ (by omega)).trans a7, fun z => ⟨(h1 _ (by omega)).trans (a8 z).1, fun k hk => ?_⟩, fun q hq => (h2 _ (by omega)).trans (a9 q hq)⟩
  have := (d4 z).2.1
  exact ⟨(h1 _ (by omega)).trans ((a8 z).2 k hk).1, (h1 _ (by omega)).trans ((a8 z).2 k hk).2⟩
theorem FrF.G {rows : List Nat} {fl : List (Nat × Nat)} {lr : List Nat} {lf : List (Nat × Nat)} {σ τ : Hp} (f : FrF σ τ) (h1 : ∀ c ∈ rows, c ≠ 1 ∧ ¬ (17 ≤ c ∧ c ≤ 30)) (h2 : ∀ q ∈ fl, q.1 ≠ 1 ∧ ¬ (17 ≤ q.1 ∧ q.1 ≤ 30)) : SameG rows fl lr lf σ τ := ⟨fun c hc => f.2.1 c (h1 c hc).1 (h1 c hc).2, fun q hq => by rw [f.2.1 q.1 (h2 q hq).1 (h2 q hq).2], fun c _ => by rw [f.1], fun q _ => by rw [f.1]⟩
theorem FrR.G {rows : List Nat} {fl : List (Nat × Nat)} {lr : List Nat} {lf : List (Nat × Nat)} {σ τ : Hp} (f : FrR σ τ) (h1 : ∀ c ∈ rows, c ≠ 98 ∧ c ≠ 102 ∧ c ≠ 103 ∧ c ≠ 104) (h2 : ∀ q ∈ fl, (q.1 ≠ 98 ∧ q.1 ≠ 102 ∧ q.1 ≠ 103 ∧ q.1 ≠ 104) ∨ (q.1 = 98 ∧ q.2 ≠ 5 ∧ q.2 ≠ 6 ∧ q.2 ≠ 7 ∧ q.2 ≠ 9 ∧ q.2 ≠ 10 ∧ q.2 ≠ 11 ∧ q.2 ≠ 12 ∧ q.2 ≠ 14 ∧ q.2 ≠ 17 ∧ q.2 ≠ 18)) (h3 : ∀ c ∈ lr, c ≠ 98) (h4 : ∀ q ∈ lf, q.1 ≠ 98 ∨ (q.1 = 98 ∧ q.2 ≠ 8)) : SameG rows fl lr lf σ τ := by
  refine ⟨fun c hc => ?_, fun q hq => ?_, fun c hc => f.2.2.1 c (h3 c hc), fun q hq => ?_⟩
  · obtain ⟨a, b, c1, d⟩ := h1 c hc
    exact f.1 c a b c1 d
  · rcases h2 q hq with ⟨a, b, c1, d⟩ | ⟨e, x5, x6, x7, x9, x10, x11, x12, x14, x17, x18⟩
    · rw [f.1 q.1 a b c1 d]
    · rw [e]; exact f.2.1 q.2 x5 x6 x7 x9 x10 x11 x12 x14 x17 x18
  · rcases h4 q hq with a | ⟨e, x8⟩
    · rw [f.2.2.1 q.1 a]
    · rw [e]; exact f.2.2.2 q.2 x8
theorem swp_G {rows : List Nat} {fl : List (Nat × Nat)} {lr : List Nat} {lf : List (Nat × Nat)} {σ : Hp} (h1 : ∀ c ∈ rows, sw c = c) (h2 : ∀ q ∈ fl, sw q.1 = q.1) (h3 : ∀ c ∈ lr, sw c = c) (h4 : ∀ q ∈ lf, sw q.1 = q.1) : SameG rows fl lr lf σ (swp σ) := by
  refine ⟨fun c hc => ?_, fun q hq => ?_, fun c hc => ?_, fun q hq => ?_⟩
  · show σ.1 (sw c) = σ.1 c
    rw [h1 c hc]
  · show σ.1 (sw q.1) q.2 = σ.1 q.1 q.2
    rw [h2 q hq]
  · show σ.2 (sw c) = σ.2 c
    rw [h3 c hc]
  · show σ.2 (sw q.1) q.2 = σ.2 q.1 q.2
    rw [h4 q hq]
abbrev SameQ : Hp → Hp → Prop := SameG [81, 118, 82, 83, 84, 119, 120, 85, 86, 87, 122, 123, 124, 89, 125] [(88, 3), (98, 54)] [121] []
theorem SameQ.of {σ τ : Hp} (h : SameR σ τ) : SameQ σ τ := ⟨fun c hc => h.1 c ((by decide : ∀ c ∈ ([81, 118, 82, 83, 84, 119, 120, 85, 86, 87, 122, 123, 124, 89, 125] : List Nat), c ∈ ([2, 101, 81, 118, 82, 83, 84, 119, 120, 85, 86, 87, 122, 123, 124, 89, 125] : List Nat)) c hc), fun q hq => h.2.1 q ((by decide : ∀ q ∈ ([(88, 3), (98, 54)] : List (Nat × Nat)), q ∈ ([(1, 1), (1, 2), (1, 3), (98, 4), (98, 10), (98, 11), (0, 10), (98, 43), (88, 3), (98, 54)] : List (Nat × Nat))) q hq), h.2.2.1, h.2.2.2⟩
/-- the tape is empty; the row stays or is empty too -/
theorem RRest.tp {σ τ : Hp} (h : RRest σ) (hs : SameQ σ τ) (t1 : τ.1 1 1 = 0) (t4 : τ.1 98 4 = 0) (f2 : τ.1 1 2 = τ.1 98 10) (f3 : τ.1 1 3 = τ.1 98 11) (hw : (τ.1 0 10 = σ.1 0 10 ∧ τ.1 98 43 = σ.1 98 43) ∨ (τ.1 0 10 = 0 ∧ τ.1 98 43 = 0)) : RRest τ := by
  have hr := in_rows hs
  have hf := hs.2.1
  obtain ⟨h1, h2, h3, h4, h5, h6⟩ := h
  unfold RRest
  rw [hr 81 rfl, hr 118 rfl, hr 82 rfl, hr 83 rfl, hr 84 rfl, hr 119 rfl, hr 120 rfl, hr 85 rfl, hr 86 rfl, hr 87 rfl, hr 122 rfl, hr 123 rfl, hr 124 rfl, hr 89 rfl, hr 125 rfl, hs.2.2.1 121 (by decide), hf (88, 3) (by decide), hf (98, 54) (by decide)]
  refine ⟨⟨0, by omega, t1, t4, fun j hj => absurd hj (by omega)⟩, ⟨f2, f3⟩, ?_, h4, h5, h6⟩
  rcases hw with ⟨a, b⟩ | ⟨a, b⟩
  · rw [a, b]; exact h3
  · obtain ⟨k, k1, k2, k3, k4⟩ := h3
    exact ⟨0, by omega, a, b, k4⟩
