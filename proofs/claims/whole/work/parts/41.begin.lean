/-! ===== wider frames ===== -/
/-- what the class's worlds and past rows leave -/
def FrW (σ τ : Hp) : Prop := (∀ c, c < 45 ∨ 66 < c → c ≠ 78 → c ≠ 79 → τ.1 c = σ.1 c) ∧ ∀ c, c < 45 ∨ 66 < c → τ.2 c = σ.2 c
/-- what the model's worlds leave -/
def FrN (σ τ : Hp) : Prop := (∀ c, c < 98 ∨ c = 99 ∨ c = 100 ∨ c = 101 ∨ c = 107 ∨ c = 113 ∨ c = 114 ∨ 117 < c → τ.1 c = σ.1 c) ∧ (∀ x, x ≠ 19 → x ≠ 35 → τ.1 98 x = σ.1 98 x) ∧ (∀ c, c ≠ 98 → c ≠ 112 → τ.2 c = σ.2 c) ∧ ∀ x, x ≠ 22 → x ≠ 23 → x ≠ 24 → x ≠ 38 → x ≠ 39 → x ≠ 40 → τ.2 98 x = σ.2 98 x
theorem FrW.rf {σ : Hp} : FrW σ σ := ⟨fun _ _ _ _ => rfl, fun _ _ => rfl⟩
theorem FrW.tr {σ τ u : Hp} (h1 : FrW σ τ) (h2 : FrW τ u) : FrW σ u := ⟨fun c a b d => (h2.1 c a b d).trans (h1.1 c a b d), fun c a => (h2.2 c a).trans (h1.2 c a)⟩
theorem FrN.rf {σ : Hp} : FrN σ σ := ⟨fun _ _ => rfl, fun _ _ _ => rfl, fun _ _ _ => rfl, fun _ _ _ _ _ _ _ => rfl⟩
theorem FrN.tr {σ τ u : Hp} (h1 : FrN σ τ) (h2 : FrN τ u) : FrN σ u := ⟨fun c a => (h2.1 c a).trans (h1.1 c a), fun x a b => (h2.2.1 x a b).trans (h1.2.1 x a b), fun c a b => (h2.2.2.1 c a b).trans (h1.2.2.1 c a b), fun x a b c d e f => (h2.2.2.2 x a b c d e f).trans (h1.2.2.2 x a b c d e f)⟩
theorem FrC.W {w : Nat} {σ τ : Hp} (hw : w = 45 ∨ w = 56) (f : FrC w σ τ) : FrW σ τ := ⟨fun c h _ _ => f.1 c (by omega), fun c h => f.2 c (by omega) (by omega)⟩
theorem FrM.N {σ τ : Hp} (f : FrM σ τ) : FrN σ τ := ⟨fun c h => f.1 c (by omega) (by omega) (by omega) (by omega) (by omega) (by omega), fun x h _ => f.2.1 x h, f.2.2.1, fun x a b c _ _ _ => f.2.2.2 x a b c⟩
theorem FrW.R {σ τ : Hp} (f : FrW σ τ) : SameR σ τ := by
  refine ⟨fun c hc => ?_, fun q hq => ?_, fun c hc => ?_, fun q hq => absurd hq (by intro h; cases h)⟩
  · have := (by decide : ∀ c ∈ ([2, 101, 81, 118, 82, 83, 84, 119, 120, 85, 86, 87, 122, 123, 124, 89, 125] : List Nat), (c < 45 ∨ 66 < c) ∧ c ≠ 78 ∧ c ≠ 79) c hc
    exact f.1 c this.1 this.2.1 this.2.2
  · have := (by decide : ∀ q ∈ ([(1, 1), (1, 2), (1, 3), (98, 4), (98, 10), (98, 11), (0, 10), (98, 43), (88, 3), (98, 54)] : List (Nat × Nat)), (q.1 < 45 ∨ 66 < q.1) ∧ q.1 ≠ 78 ∧ q.1 ≠ 79) q hq
    rw [f.1 q.1 this.1 this.2.1 this.2.2]
  · have := (by decide : ∀ c ∈ ([121] : List Nat), c < 45 ∨ 66 < c) c hc
    exact f.2 c this
theorem FrW.K {σ τ : Hp} (f : FrW σ τ) : SameK σ τ := by
  refine ⟨fun c hc => ?_, fun q hq => ?_, fun c hc => absurd hc (by intro h; cases h), fun q hq => ?_⟩
  · have := (by decide : ∀ c ∈ ([126, 80, 32, 33, 34, 35, 36, 37, 38, 39, 40, 41, 42, 43, 68, 69, 70, 71, 72, 73, 74, 75] : List Nat), (c < 45 ∨ 66 < c) ∧ c ≠ 78 ∧ c ≠ 79) c hc
    exact f.1 c this.1 this.2.1 this.2.2
  · have := (by decide : ∀ q ∈ ([(0, 6), (98, 56), (31, 0), (31, 1), (67, 0), (67, 4)] : List (Nat × Nat)), (q.1 < 45 ∨ 66 < q.1) ∧ q.1 ≠ 78 ∧ q.1 ≠ 79) q hq
    rw [f.1 q.1 this.1 this.2.1 this.2.2]
  · have := (by decide : ∀ q ∈ ([(98, 59), (98, 60), (98, 61), (67, 1), (67, 2), (67, 3)] : List (Nat × Nat)), q.1 < 45 ∨ 66 < q.1) q hq
    rw [f.2 q.1 this]
theorem FrN.R {σ τ : Hp} (f : FrN σ τ) : SameR σ τ := by
  refine ⟨fun c hc => ?_, fun q hq => ?_, fun c hc => ?_, fun q hq => absurd hq (by intro h; cases h)⟩
  · exact f.1 c ((by decide : ∀ c ∈ ([2, 101, 81, 118, 82, 83, 84, 119, 120, 85, 86, 87, 122, 123, 124, 89, 125] : List Nat), c < 98 ∨ c = 99 ∨ c = 100 ∨ c = 101 ∨ c = 107 ∨ c = 113 ∨ c = 114 ∨ 117 < c) c hc)
  · rcases (by decide : ∀ q ∈ ([(1, 1), (1, 2), (1, 3), (98, 4), (98, 10), (98, 11), (0, 10), (98, 43), (88, 3), (98, 54)] : List (Nat × Nat)), q.1 < 98 ∨ (q.1 = 98 ∧ q.2 ≠ 19 ∧ q.2 ≠ 35)) q hq with h | ⟨e1, e2, e3⟩
    · rw [f.1 q.1 (Or.inl h)]
    · rw [e1]; exact f.2.1 q.2 e2 e3
  · obtain ⟨a1, a2⟩ := (by decide : ∀ c ∈ ([121] : List Nat), c ≠ 98 ∧ c ≠ 112) c hc
    exact f.2.2.1 c a1 a2
theorem FrN.K {σ τ : Hp} (f : FrN σ τ) : SameK σ τ := by
  refine ⟨fun c hc => ?_, fun q hq => ?_, fun c hc => absurd hc (by intro h; cases h), fun q hq => ?_⟩
  · exact f.1 c ((by decide : ∀ c ∈ ([126, 80, 32, 33, 34, 35, 36, 37, 38, 39, 40, 41, 42, 43, 68, 69, 70, 71, 72, 73, 74, 75] : List Nat), c < 98 ∨ c = 99 ∨ c = 100 ∨ c = 101 ∨ c = 107 ∨ c = 113 ∨ c = 114 ∨ 117 < c) c hc)
  · rcases (by decide : ∀ q ∈ ([(0, 6), (98, 56), (31, 0), (31, 1), (67, 0), (67, 4)] : List (Nat × Nat)), q.1 < 98 ∨ (q.1 = 98 ∧ q.2 ≠ 19 ∧ q.2 ≠ 35)) q hq with h | ⟨e1, e2, e3⟩
    · rw [f.1 q.1 (Or.inl h)]
    · rw [e1]; exact f.2.1 q.2 e2 e3
  · rcases (by decide : ∀ q ∈ ([(98, 59), (98, 60), (98, 61), (67, 1), (67, 2), (67, 3)] : List (Nat × Nat)), (q.1 ≠ 98 ∧ q.1 ≠ 112) ∨ (q.1 = 98 ∧ q.2 ≠ 22 ∧ q.2 ≠ 23 ∧ q.2 ≠ 24 ∧ q.2 ≠ 38 ∧ q.2 ≠ 39 ∧ q.2 ≠ 40)) q hq with ⟨a1, a2⟩ | ⟨e1, e2, e3, e4, e5, e6, e7⟩
    · rw [f.2.2.1 q.1 a1 a2]
    · rw [e1]; exact f.2.2.2 q.2 e2 e3 e4 e5 e6 e7
theorem TxM.frW {n : Nat} {th sg : Nat → Int32} {ne : Nat} {ev : Nat → Int32} {σ τ : Hp} (h : TxM n th sg ne ev σ) (f : FrW σ τ) : TxM n th sg ne ev τ := by
  have h98 := f.1 98 (by omega) (by omega) (by omega)
  exact ⟨by rw [h98]; exact h.1, (f.1 99 (by omega) (by omega) (by omega)).trans h.2.1, (f.1 100 (by omega) (by omega) (by omega)).trans h.2.2.1, by rw [h98]; exact h.2.2.2.1, (f.1 107 (by omega) (by omega) (by omega)).trans h.2.2.2.2⟩
theorem MS.frW {s : WS} {σ τ : Hp} (h : MS s σ) (f : FrW σ τ) : MS s τ := by
  have h98 := f.1 98 (by omega) (by omega) (by omega)
  have l98 := f.2 98 (by omega)
  exact ⟨(f.1 105 (by omega) (by omega) (by omega)).trans h.1, (f.1 106 (by omega) (by omega) (by omega)).trans h.2.1, by rw [h98]; exact h.2.2.1, by rw [l98]; exact h.2.2.2.1, by rw [l98]; exact h.2.2.2.2.1, by rw [l98]; exact h.2.2.2.2.2⟩
theorem TxM.frN {n : Nat} {th sg : Nat → Int32} {ne : Nat} {ev : Nat → Int32} {σ τ : Hp} (h : TxM n th sg ne ev σ) (f : FrN σ τ) : TxM n th sg ne ev τ := ⟨(f.2.1 0 (by decide) (by decide)).trans h.1, (f.1 99 (by omega)).trans h.2.1, (f.1 100 (by omega)).trans h.2.2.1, (f.2.1 25 (by decide) (by decide)).trans h.2.2.2.1, (f.1 107 (by omega)).trans h.2.2.2.2⟩
theorem CX.frW {n : Nat} {th sg : Nat → Int32} {σ τ : Hp} (cx : CX n th sg (fun j => σ.1 (3 + j))) (f : FrW σ τ) : CX n th sg (fun j => τ.1 (3 + j)) := cx.off (fun c h1 h2 => f.1 c (by omega) (by omega) (by omega))
theorem CX.frN {n : Nat} {th sg : Nat → Int32} {σ τ : Hp} (cx : CX n th sg (fun j => σ.1 (3 + j))) (f : FrN σ τ) : CX n th sg (fun j => τ.1 (3 + j)) := cx.off (fun c h1 h2 => f.1 c (by omega))
/-- a world stays where its cells do -/
theorem CS.off {n w ne : Nat} {th sg ev : Nat → Int32} {s : WS} {σ τ : Hp} (cs : CS n th sg ne ev s w σ) (h : ∀ c, w ≤ c → c ≤ w + 8 → τ.1 c = σ.1 c) (h2 : τ.2 w = σ.2 w) : CS n th sg ne ev s w τ := by
  refine ⟨cs.1.cong ?_ ?_ (fun j h1 h2 => h (w + j) (by omega) (by omega)), by rw [h2]; exact cs.2⟩
  · show τ.1 (w + 0) 0 = σ.1 (w + 0) 0
    rw [h (w + 0) (by omega) (by omega)]
  · show τ.1 (w + 0) 4 = σ.1 (w + 0) 4
    rw [h (w + 0) (by omega) (by omega)]
theorem CS.frN {n w ne : Nat} {th sg ev : Nat → Int32} {s : WS} {σ τ : Hp} (cs : CS n th sg ne ev s w σ) (hw : w = 45 ∨ w = 56) (f : FrN σ τ) : CS n th sg ne ev s w τ := cs.off (fun c h1 h2 => f.1 c (by omega)) (f.2.2.1 w (by omega) (by omega))
/-! ===== all begins ===== -/
def am0 (k : Nat) (th am : Nat → Int32) (i : Nat) : Int32 := if i < k then th (20 * i + 3) else am i
def ws0 (n : Nat) (th : Nat → Int32) (s : WS) : WS := (am0 n th s.1, s.2.1, 0, 0, 0, 0)
theorem am0_s {k : Nat} {th am : Nat → Int32} : upd (am0 k th am) k (th (20 * k + 3)) = am0 (k + 1) th am := by
  funext i
  rw [upd_r]
  unfold am0
  by_cases e : i = k
  · rw [if_pos e, e, if_pos (by omega)]
  · rw [if_neg e]
    by_cases h : i < k
    · rw [if_pos h, if_pos (by omega)]
    · rw [if_neg h, if_neg (by omega)]
theorem MW.zero {n ne : Nat} {th sg am ev : Nat → Int32} (tw : TW n th sg) (hE : ne ≤ 6 ∧ ∀ e, e < ne → ∃ j, j < n ∧ ev (3 * e + 1) = nI j ∧ th (20 * j) = 5) : MW n th (am0 n th am) ne ev := by
  refine ⟨fun i hi e1 => ?_, hE⟩
  unfold am0
  rw [if_pos hi]
  obtain ⟨f, hf, e⟩ := (tw.2 i hi).2.2.2.2.2.2.1 (Or.inl e1)
  exact ⟨f, by omega, e⟩
theorem m_begin {d : Nat} {K : Po} {σ : Hp} {n : Nat} {th : Nat → Int32} {s : WS} (h16 : n ≤ 16) (hn : σ.1 98 0 = nI n) (ht : σ.1 99 = th) (ms : MS s σ) (q : ∀ τ : Hp, FrM σ τ → MS (ws0 n th s) τ → K none τ) : CTs (d + 2) y_M_beginWorld [.ref 98] σ K := by
  obtain ⟨m1, m2, m3, m4, m5, m6⟩ := ms
  refine e_M_beginWorld (t_M_beginWorld_0 ?_)
  have key : ∀ (c k : Nat) (τ : Hp), k + c = n → (∀ c, c ≠ 98 → c ≠ 105 → τ.1 c = σ.1 c) → (∀ x, x ≠ 19 → τ.1 98 x = σ.1 98 x) → τ.1 98 19 = 0 → τ.1 105 = am0 k th s.1 → (∀ c, c ≠ 98 → τ.2 c = σ.2 c) → (∀ x, x ≠ 22 → x ≠ 23 → x ≠ 24 → τ.2 98 x = σ.2 98 x) → τ.2 98 22 = 0 → τ.2 98 23 = 0 → τ.2 98 24 = 0 → WP c_M_beginWorld (CTs (d + 1)) K (22, [(0, .ref 98), (1, .int (nI k))], []) τ := by
    intro c
    induction c with
    | zero =>
      intro k τ hk t1 tx t19 ta t2 ty t22 t23 t24
      have ek : k = n := by omega
      rw [ek] at ta ⊢
      refine t_M_beginWorld_22 ?_
      rw [tx 0 (by decide), hn]
      refine ifp (Int32.le_refl _) (q τ ⟨fun c h1 h2 _ _ _ _ => t1 c h1 h2, tx, fun c h1 _ => t2 c h1, ty⟩ ⟨ta, ?_, t19, t22, t23, t24⟩)
      rw [t1 106 (by decide) (by decide)]; exact m2
    | succ c ih =>
      intro k τ hk t1 tx t19 ta t2 ty t22 t23 t24
      refine t_M_beginWorld_22 ?_
      rw [tx 0 (by decide), hn, nI_1, nI_clamp (n := k) (by omega)]
      refine ifn (nI_ge (by omega) (by omega)) (p_of (w := 3) (by omega) (by omega) ⟨vp_in_nI (by omega) (by omega), ih (k + 1) _ (by omega) (fun c h1 h2 => by rw [sI_r, if_neg h2]; exact t1 c h1 h2) (fun x hx => by rw [sI_r, if_neg (by decide)]; exact tx x hx) (by rw [sI_r, if_neg (by decide)]; exact t19) ?_ t2 ty t22 t23 t24⟩)
      rw [sI_r, if_pos rfl, ta, t1 99 (by decide) (by decide), ht]
      exact am0_s
  refine key n 0 _ (by omega) (fun c h1 h2 => by rw [sL_r, sL_r, sL_r, sI_r, if_neg h1]) (fun x hx => by rw [sL_r, sL_r, sL_r, sI_r, if_pos rfl, upd_r, if_neg hx]) (by rw [sL_r, sL_r, sL_r, sI_r, if_pos rfl, pk_us]) ?_ (fun c h1 => by rw [sL_l, if_neg h1, sL_l, if_neg h1, sL_l, if_neg h1]; rfl) (fun x h1 h2 h3 => by rw [sL_l, if_pos rfl, updL_r, if_neg h3, sL_l, if_pos rfl, updL_r, if_neg h2, sL_l, if_pos rfl, updL_r, if_neg h1]; rfl) ?_ ?_ ?_
  · rw [sL_r, sL_r, sL_r, sI_r, if_neg (by decide), m1]
    funext i
    unfold am0
    rw [if_neg (by omega)]
  · rw [sL_l, if_pos rfl, updL_r, if_neg (by decide), sL_l, if_pos rfl, updL_r, if_neg (by decide), sL_l, if_pos rfl, pk_uLs]
  · rw [sL_l, if_pos rfl, updL_r, if_neg (by decide), sL_l, if_pos rfl, pk_uLs]
  · rw [sL_l, if_pos rfl, pk_uLs]
theorem CB.cong {n : Nat} {th am mem : Nat → Int32} {now ne : Nat} {ev : Nat → Int32} {W U : Nat → Nat → Int32} (h : CB n th am mem now ne ev W) (h0 : U 0 = W 0) (h1 : U 1 = W 1) (h2 : U 2 = W 2) (h3 : U 3 = W 3) (h4 : U 4 = W 4) (h8 : U 8 = W 8) : CB n th am mem now ne ev U := by
  obtain ⟨c1, c2, c3, c4, c5⟩ := h
  exact ⟨by rw [h0]; exact c1, by rw [h0]; exact c2, by rw [h1, h2, h3]; exact c3, by rw [h4]; exact c4, by rw [h8]; exact c5⟩
/-- workOut, as a state's last part -/
theorem c_work {d : Nat} {K : Po} {σ : Hp} {n w ne : Nat} {th sg ev : Nat → Int32} {s : WS} (hw : w = 45 ∨ w = 56) (tw : TW n th sg) (cx : CX n th sg (fun j => σ.1 (3 + j))) (mw : MW n th s.1 ne ev) (cb : CB n th s.1 s.2.1 s.2.2.1 ne ev (fun j => σ.1 (w + j))) (wl : CWL s.2.2.2.1 s.2.2.2.2.1 s.2.2.2.2.2 (σ.2 w)) (h20 : s.2.2.1 < 2 ^ 20) (q : ∀ τ : Hp, FrC w σ τ → CS n th sg ne ev s w τ → K none τ) : CTs (d + 4) y_Wo_workOut [.ref w, .ref 3] σ K := by
  refine p_workOut hw tw cx mw.1 cb h20 (fun τ t1 t2 tv => q τ ⟨fun c hc => t1 c (by omega) (by omega) (by omega) (by omega), fun c _ h2 => t2 c h2⟩ ⟨CW.split.mpr ⟨?_, tv⟩, by rw [t2 w (by omega)]; exact wl⟩)
  exact cb.cong (t1 (w + 0) (by omega) (by omega) (by omega) (by omega)) (t1 (w + 1) (by omega) (by omega) (by omega) (by omega)) (t1 (w + 2) (by omega) (by omega) (by omega) (by omega)) (t1 (w + 3) (by omega) (by omega) (by omega) (by omega)) (t1 (w + 4) (by omega) (by omega) (by omega) (by omega)) (t1 (w + 8) (by omega) (by omega) (by omega) (by omega))
theorem cpy0 {f g : Nat → Int32} {N i : Nat} (h : i < N) : va_cpy f g 0 0 N i = f i := (pk_cpy_in (Nat.zero_le i) (by omega)).trans (by rw [Nat.zero_add, Nat.sub_zero])
theorem c_restart {d : Nat} {K : Po} {σ : Hp} {n w ne : Nat} {th sg ev : Nat → Int32} {s : WS} (hw : w = 45 ∨ w = 56) (tw : TW n th sg) (cx : CX n th sg (fun j => σ.1 (3 + j))) (hE : ne ≤ 6 ∧ ∀ e, e < ne → ∃ j, j < n ∧ ev (3 * e + 1) = nI j ∧ th (20 * j) = 5) (hne : σ.1 w 4 = nI ne) (hev : ∀ e, e < ne → σ.1 (w + 1) e = ev (3 * e) ∧ σ.1 (w + 2) e = ev (3 * e + 1) ∧ σ.1 (w + 3) e = ev (3 * e + 2)) (q : ∀ τ : Hp, FrC w σ τ → CS n th sg ne ev (ws0 n th s) w τ → K none τ) : CTs (d + 5) y_Wo_restart [.ref w, .ref 3] σ K := by
  have h16 := tw.1
  refine e_Wo_restart hw (t_Wo_restart_0 hw ⟨by decide, ?_⟩)
  generalize hH : sC (sL (sL (sL (sI σ w 0 (0 : Int32)) w 1 (0 : Int64)) w 2 (0 : Int64)) w 3 (0 : Int64)) (w + 4) (va_cpy (σ.1 6) (σ.1 (w + 4)) (0 : Int32).toNatClampNeg (0 : Int32).toNatClampNeg (16 : Int32).toNatClampNeg) = H
  have r1 : ∀ c, c ≠ w → c ≠ w + 4 → H.1 c = σ.1 c := fun c h1 h2 => by rw [← hH, sC_r, if_neg h2, sL_r, sL_r, sL_r, sI_r, if_neg h1]
  have r0 : H.1 w = upd (σ.1 w) 0 0 := by rw [← hH, sC_r, if_neg (by omega), sL_r, sL_r, sL_r, sI_r, if_pos rfl]
  have r4 : ∀ i, i < 16 → H.1 (w + 4) i = σ.1 6 i := fun i hi => by
    rw [← hH, sC_r, if_pos rfl]
    exact cpy0 (N := 16) hi
  have l0 : ∀ c, c ≠ w → H.2 c = σ.2 c := fun c h1 => by rw [← hH, sC_l, sL_l, if_neg h1, sL_l, if_neg h1, sL_l, if_neg h1]; rfl
  have lw : H.2 w 1 = 0 ∧ H.2 w 2 = 0 ∧ H.2 w 3 = 0 := by
    rw [← hH, sC_l]
    refine ⟨?_, ?_, ?_⟩
    · rw [sL_l, if_pos rfl, updL_r, if_neg (by decide), sL_l, if_pos rfl, updL_r, if_neg (by decide), sL_l, if_pos rfl, pk_uLs]
    · rw [sL_l, if_pos rfl, updL_r, if_neg (by decide), sL_l, if_pos rfl, pk_uLs]
    · rw [sL_l, if_pos rfl, pk_uLs]
  refine c_work (s := ws0 n th s) (ne := ne) (ev := ev) hw tw (cx.off (fun c h1 h2 => r1 c (by omega) (by omega))) (MW.zero tw hE) ⟨?_, ?_, fun e he => ?_, fun i hi e => ?_, fun i hi e x hx => absurd hx (by show ¬ x < 0; omega)⟩ lw (by show 0 < 2 ^ 20; omega) (fun τ f cs => q τ ⟨fun c hc => (f.1 c hc).trans (r1 c (by omega) (by omega)), fun c h1 h2 => (f.2 c h1 h2).trans (l0 c h1)⟩ cs)
  · show H.1 (w + 0) 0 = nI 0
    rw [show w + 0 = w from rfl, r0, pk_us]; rfl
  · show H.1 (w + 0) 4 = nI ne
    rw [show w + 0 = w from rfl, r0, upd_r, if_neg (by decide)]; exact hne
  · show H.1 (w + 1) e = _ ∧ H.1 (w + 2) e = _ ∧ H.1 (w + 3) e = _
    rw [r1 (w + 1) (by omega) (by omega), r1 (w + 2) (by omega) (by omega), r1 (w + 3) (by omega) (by omega)]
    exact hev e he
  · show H.1 (w + 4) i = am0 n th s.1 i
    unfold am0
    rw [r4 i (by omega), if_pos hi]
    exact cx.t3 hi (fun z => by rcases e with e | e <;> exact absurd (e.symm.trans z) (by decide))
/-- a number is held at another value -/
def wsH (s : WS) (i : Nat) (v : Int32) : WS := (upd s.1 i v, s.2)
theorem MW.hold {n ne : Nat} {th am ev : Nat → Int32} {i : Nat} {v : Int32} (mw : MW n th am ne ev) (e5 : th (20 * i) = 5) : MW n th (upd am i v) ne ev := ⟨fun j hj e1 => by rw [pk_un (fun z => by rw [z] at e1; exact absurd (e1.symm.trans e5) (by decide))]; exact mw.1 j hj e1, mw.2⟩
theorem c_hold {d : Nat} {K : Po} {σ : Hp} {n w ne i : Nat} {v : Int32} {th sg ev : Nat → Int32} {s : WS} (hw : w = 45 ∨ w = 56) (tw : TW n th sg) (cx : CX n th sg (fun j => σ.1 (3 + j))) (cs : CS n th sg ne ev s w σ) (mw : MW n th s.1 ne ev) (h20 : s.2.2.1 < 2 ^ 20) (hi : i < n) (e5 : th (20 * i) = 5) (q : ∀ τ : Hp, FrC w σ τ → CS n th sg ne ev (wsH s i v) w τ → K none τ) : CTs (d + 5) y_Wo_hold [.ref w, .ref 3, .int (nI i), .int v] σ K := by
  have h16 := tw.1
  refine e_Wo_hold hw (t_Wo_hold_0 hw ⟨vp_in_nI (by omega) (by omega), ?_⟩)
  rw [nI_clamp (n := i) (by omega)]
  obtain ⟨c1, c2, c3, c4, c5⟩ := (CW.split.mp cs.1).1
  have off : ∀ c, c ≠ w + 4 → (sI σ (w + 4) i v).1 c = σ.1 c := fun c hc => by rw [sI_r, if_neg hc]
  refine c_work (s := wsH s i v) hw tw (cx.off (fun c h1 h2 => off c (by omega))) (mw.hold e5) ⟨?_, ?_, fun e he => ?_, fun j hj e => ?_, fun j hj e x h1 h2 => ?_⟩ cs.2 h20 (fun τ f cs => q τ ⟨fun c hc => (f.1 c hc).trans (off c (by omega)), f.2⟩ cs)
  · show (sI σ (w + 4) i v).1 (w + 0) 0 = _
    rw [off (w + 0) (by omega)]; exact c1
  · show (sI σ (w + 4) i v).1 (w + 0) 4 = _
    rw [off (w + 0) (by omega)]; exact c2
  · show (sI σ (w + 4) i v).1 (w + 1) e = _ ∧ (sI σ (w + 4) i v).1 (w + 2) e = _ ∧ (sI σ (w + 4) i v).1 (w + 3) e = _
    rw [off (w + 1) (by omega), off (w + 2) (by omega), off (w + 3) (by omega)]; exact c3 e he
  · show (sI σ (w + 4) i v).1 (w + 4) j = upd s.1 i v j
    rw [sI_r, if_pos rfl, upd_r, upd_r]
    by_cases ej : j = i
    · rw [if_pos ej, if_pos ej]
    · rw [if_neg ej, if_neg ej]; exact c4 j hj e
  · show (sI σ (w + 4) i v).1 (w + 8) _ = _
    rw [off (w + 8) (by omega)]; exact c5 j hj e x h1 h2
theorem op_begin : O_begin Rel := by
  intro σ h
  obtain ⟨⟨n, now, ne, hc⟩, hr, hkp⟩ := id h
  obtain ⟨a, b, c, ⟨tw, cx, mw, cw, ps, h60⟩, wl⟩ := id hc
  refine e_SS_begin (t_SS_begin_0 (c_restart (s := wsOf σ now) (Or.inl rfl) tw cx mw.2 cw.2.1 cw.2.2.1 (fun τ f cs => e_M_begin (t_M_begin_0 (e_M_beginAll (t_M_beginAll_0 ?_))))))
  have fw := f.W (Or.inl rfl)
  have tx := hc.tx.frW fw
  refine m_begin (s := wsOf σ now) tw.1 tx.1 tx.2.1 (hc.ms.frW fw) (fun u fm ms => ⟨?_, ⟨n, 0, ne, RCore.of (s := ws0 n (σ.1 99) (wsOf σ now)) (tx.frN fm.N) ms (cs.frN (Or.inl rfl) fm.N) tw ((cx.frW fw).frN fm.N) (MW.zero tw mw.2) (fun x i hx => absurd hx (by show ¬ x < 0; omega)) (by show 0 ≤ 60; omega)⟩, hr.same (fw.R.tr fm.N.R), hkp.same (fw.K.tr fm.N.K)⟩)
  show σ.1 45 0 = τ.1 98 19
  rw [f.1 98 (by omega), b]; exact cw.1
/-! ===== kinds ===== -/
theorem p_is1 {d : Nat} {K : Po} {σ : Hp} {n j : Nat} {x : Int32} (hn : σ.1 3 0 = nI n) (h16 : n ≤ 16) (h : j < n) (e : σ.1 4 j = x) (k : K (some (.int 1)) σ) : CTs (d + 2) y_Tx_is [.ref 3, .int (nI j), .int x] σ K := by
  refine e_Tx_is rfl (t_Tx_is_0 rfl (p_has1 (Or.inl rfl) hn h16 h (o1 ⟨vp_in_nI (by omega) (by omega), ?_⟩)))
  rw [nI_clamp (n := j) (by omega)]
  exact ifp e ⟨vb1, k⟩
theorem p_is0 {d : Nat} {K : Po} {σ : Hp} {n : Nat} {a x : Int32} (hn : σ.1 3 0 = nI n) (h16 : n ≤ 16) (h : nIx a n ∨ ∃ j, j < n ∧ a = nI j ∧ ¬ σ.1 4 j = x) (k : K (some (.int 0)) σ) : CTs (d + 2) y_Tx_is [.ref 3, .int a, .int x] σ K := by
  refine e_Tx_is rfl (t_Tx_is_0 rfl ?_)
  rcases h with z | ⟨j, hj, rfl, e⟩
  · exact p_has0 (Or.inl rfl) hn z (o0 ⟨vb0, k⟩)
  · refine p_has1 (Or.inl rfl) hn h16 hj (o1 ⟨vp_in_nI (by omega) (by omega), ?_⟩)
    rw [nI_clamp (n := j) (by omega)]
    exact ifn e ⟨vb0, k⟩
theorem ix_20 {j : Nat} (hj : j < 16) : vp_in ((20 : Int32) * nI j) 320 ∧ ((20 : Int32) * nI j).toNatClampNeg = 20 * j := by
  rw [show (20 : Int32) = nI 20 from rfl, pk_mul]
  exact ⟨vp_in_nI (by omega) (by omega), nI_clamp (by omega)⟩
theorem p_isKind1 {d : Nat} {K : Po} {σ : Hp} {n j : Nat} {x : Int32} (hn : σ.1 98 0 = nI n) (h16 : n ≤ 16) (h : j < n) (e : σ.1 99 (20 * j) = x) (k : K (some (.int 1)) σ) : CTs (d + 3) y_M_isKind [.ref 98, .int (nI j), .int x] σ K := by
  refine e_M_isKind (t_M_isKind_0 (p_isThing1 hn h16 h (o1 (p_isThing1 hn h16 h (o1 ⟨(ix_20 (by omega)).1, ?_⟩)))))
  rw [(ix_20 (j := j) (by omega)).2]
  exact ifp e ⟨vb1, k⟩
theorem p_isKind0 {d : Nat} {K : Po} {σ : Hp} {n : Nat} {a x : Int32} (hn : σ.1 98 0 = nI n) (h16 : n ≤ 16) (h : nIx a n ∨ ∃ j, j < n ∧ a = nI j ∧ ¬ σ.1 99 (20 * j) = x) (k : K (some (.int 0)) σ) : CTs (d + 3) y_M_isKind [.ref 98, .int a, .int x] σ K := by
  refine e_M_isKind (t_M_isKind_0 ?_)
  rcases h with z | ⟨j, hj, rfl, e⟩
  · exact p_isThing0 hn h16 z (o0 ⟨vb0, k⟩)
  · refine p_isThing1 hn h16 hj (o1 (p_isThing1 hn h16 hj (o1 ⟨(ix_20 (by omega)).1, ?_⟩)))
    rw [(ix_20 (j := j) (by omega)).2]
    exact ifn e ⟨vb0, k⟩
/-- a thing of a kind, or none -/
theorem kdc (a : Int32) (n : Nat) (h : n < 2 ^ 31) (th : Nat → Int32) (x : Int32) : (nIx a n ∨ ∃ j, j < n ∧ a = nI j ∧ ¬ th (20 * j) = x) ∨ ∃ j, j < n ∧ a = nI j ∧ th (20 * j) = x := by
  rcases ixc a h with z | ⟨j, hj, e⟩
  · exact Or.inl (Or.inl z)
  · by_cases e2 : th (20 * j) = x
    · exact Or.inr ⟨j, hj, e, e2⟩
    · exact Or.inl (Or.inr ⟨j, hj, e, e2⟩)
theorem kdcT {a : Int32} {n : Nat} {th sg : Nat → Int32} {σ : Hp} {x : Int32} (cx : CX n th sg (fun j => σ.1 (3 + j))) (h : nIx a n ∨ ∃ j, j < n ∧ a = nI j ∧ ¬ th (20 * j) = x) : nIx a n ∨ ∃ j, j < n ∧ a = nI j ∧ ¬ σ.1 4 j = x := by
  rcases h with h | ⟨j, hj, e, e2⟩
  · exact Or.inl h
  · exact Or.inr ⟨j, hj, e, by rw [cx.k hj]; exact e2⟩
theorem op_change : O_change Rel := by
  intro σ a1 a2 h
  obtain ⟨⟨n, now, ne, hc⟩, hr, hkp⟩ := id h
  obtain ⟨a, b, c, ⟨tw, cx, mw, cw, ps, h60⟩, wl⟩ := id hc
  have h16 := tw.1
  refine e_SS_change (t_SS_change_0 ?_)
  rcases kdc a1 n (by omega) (σ.1 99) 5 with z | ⟨i, hi, rfl, e5⟩
  · exact p_is0 cx.n h16 (kdcT cx z) (o0 (e_M_change (t_M_change_0 (p_isKind0 a h16 z (o0 ⟨rfl, h⟩)))))
  have hv : vp_in (nI i) 16 := vp_in_nI (by omega) (by omega)
  refine p_is1 cx.n h16 hi ((cx.k hi).trans e5) (o1 ⟨hv, c_hold (s := wsOf σ now) (Or.inl rfl) tw cx hc.cs mw (by show now < 2 ^ 20; omega) hi e5 (fun τ f cs => ?_)⟩)
  have fw := f.W (Or.inl rfl)
  have tx := hc.tx.frW fw
  have m0 := hc.ms.frW fw
  rw [nI_clamp (n := i) (by omega)]
  refine e_M_change (t_M_change_0 (p_isKind1 tx.1 h16 hi (by rw [tx.2.1]; exact e5) (o1 ⟨hv, hv, ?_, ?_⟩)))
  · rw [nI_clamp (n := i) (by omega)]
    show σ.1 49 i = τ.1 105 i
    rw [f.1 105 (by omega)]
    exact cw.2.2.2.1 i hi (Or.inr e5)
  · rw [nI_clamp (n := i) (by omega)]
    have fm : FrM τ (sI τ 105 i a2) := ⟨fun c _ h2 _ _ _ _ => by rw [sI_r, if_neg h2], fun x _ => by rw [sI_r, if_neg (by decide)], fun _ _ _ => rfl, fun _ _ _ _ => rfl⟩
    refine ⟨⟨n, now, ne, RCore.of (s := wsH (wsOf σ now) i a2) (tx.frN fm.N) ⟨?_, ?_, ?_, m0.2.2.2.1, m0.2.2.2.2.1, m0.2.2.2.2.2⟩ (cs.frN (Or.inl rfl) fm.N) tw ((cx.frW fw).frN fm.N) (mw.hold e5) ?_ h60⟩, hr.same (fw.R.tr fm.N.R), hkp.same (fw.K.tr fm.N.K)⟩
    · rw [sI_r, if_pos rfl, m0.1]; rfl
    · rw [sI_r, if_neg (by decide)]; exact m0.2.1
    · rw [sI_r, if_neg (by decide)]; exact m0.2.2.1
    · rw [sI_r, if_neg (by decide), sI_r, if_neg (by decide), f.1 108 (by omega), f.1 78 (by omega)]; exact ps
