/-! ===== worlds copied ===== -/
theorem CW.pt {n : Nat} {th sg am mem : Nat → Int32} {now ne : Nat} {ev : Nat → Int32} {W U : Nat → Nat → Int32} (tw : TW n th sg) (hne : ne ≤ 6) (h : CW n th sg am mem now ne ev W) (h0 : U 0 0 = W 0 0) (h04 : U 0 4 = W 0 4) (h3 : ∀ j, 1 ≤ j → j ≤ 3 → ∀ e, e < 6 → U j e = W j e) (h7 : ∀ j, 4 ≤ j → j ≤ 7 → ∀ i, i < 16 → U j i = W j i) (h8 : ∀ x, x < 144 → U 8 x = W 8 x) : CW n th sg am mem now ne ev U := by
  have h16 := tw.1
  obtain ⟨c1, c2, c3, c4, c5, c6, c7, c8⟩ := h
  refine ⟨h0.trans c1, h04.trans c2, fun e he => ?_, fun i hi e => ?_, fun i hi => ?_, fun i hi e => ?_, fun i hi e => ?_, fun i hi e s h1 h2 => ?_⟩
  · rw [h3 1 (by omega) (by omega) e (by omega), h3 2 (by omega) (by omega) e (by omega), h3 3 (by omega) (by omega) e (by omega)]; exact c3 e he
  · rw [h7 4 (by omega) (by omega) i (by omega)]; exact c4 i hi e
  · rw [h7 5 (by omega) (by omega) i (by omega)]; exact c5 i hi
  · rw [h7 6 (by omega) (by omega) i (by omega)]; exact c6 i hi e
  · rw [h7 7 (by omega) (by omega) i (by omega)]; exact c7 i hi e
  · obtain ⟨N, N1, N9, hN⟩ := (tw.2 i hi).2.2.2.2.2.1 e
    have hm : s % sN (th (20 * i + 3)) < 9 := by
      rw [hN, sN_nI (by omega)]
      have := Nat.mod_lt s (show N > 0 by omega)
      omega
    rw [h8 _ (by omega)]; exact c8 i hi e s h1 h2
theorem cl16 : (16 : Int32).toNatClampNeg = 16 ∧ (6 : Int32).toNatClampNeg = 6 ∧ (0 : Int32).toNatClampNeg = 0 ∧ (Int32.ofNat 144).toNatClampNeg = 144 := by decide +kernel
/-- a world taken over: z into w -/
def TkW (w z : Nat) (σ τ : Hp) : Prop := (∀ c, c < w ∨ w + 8 < c → τ.1 c = σ.1 c) ∧ (∀ c, c ≠ w → τ.2 c = σ.2 c) ∧ τ.1 w 0 = σ.1 z 0 ∧ τ.1 w 4 = σ.1 z 4 ∧ (τ.2 w 1 = σ.2 z 1 ∧ τ.2 w 2 = σ.2 z 2 ∧ τ.2 w 3 = σ.2 z 3) ∧ (∀ j, 1 ≤ j → j ≤ 3 → ∀ e, e < 6 → τ.1 (w + j) e = σ.1 (z + j) e) ∧ (∀ j, 4 ≤ j → j ≤ 7 → ∀ i, i < 16 → τ.1 (w + j) i = σ.1 (z + j) i) ∧ ∀ x, x < 144 → τ.1 (w + 8) x = σ.1 (z + 8) x
set_option maxHeartbeats 1000000 in
theorem p_take {d : Nat} {K : Po} {σ : Hp} {w z : Nat} (hs : (w = 56 ∧ z = 45) ∨ (w = 67 ∧ z = 45) ∨ (w = 45 ∧ z = 67)) (q : ∀ τ : Hp, TkW w z σ τ → K none τ) : CTs (d + 1) y_Wo_take [.ref w, .ref z] σ K := by
  refine e_Wo_take hs (t_Wo_take_0 hs ⟨by decide, by decide, by decide, by decide, by decide, by decide, by decide, by decide +kernel, q _ ?_⟩)
  have hzw : z + 8 < w ∨ w + 8 < z := by omega
  have a0 : ∀ c, c < w ∨ w + 8 < c → (sC (sC (sC (sC (sC (sC (sC (sC (sI (sL (sL (sL (sI σ w 0 (σ.1 z 0)) w 1 (σ.2 z 1)) w 2 (σ.2 z 2)) w 3 (σ.2 z 3)) w 4 (σ.1 z 4)) (w + 1) (va_cpy (σ.1 (z + 1)) (σ.1 (w + 1)) (0 : Int32).toNatClampNeg (0 : Int32).toNatClampNeg (6 : Int32).toNatClampNeg)) (w + 2) (va_cpy (σ.1 (z + 2)) (σ.1 (w + 2)) (0 : Int32).toNatClampNeg (0 : Int32).toNatClampNeg (6 : Int32).toNatClampNeg)) (w + 3) (va_cpy (σ.1 (z + 3)) (σ.1 (w + 3)) (0 : Int32).toNatClampNeg (0 : Int32).toNatClampNeg (6 : Int32).toNatClampNeg)) (w + 4) (va_cpy (σ.1 (z + 4)) (σ.1 (w + 4)) (0 : Int32).toNatClampNeg (0 : Int32).toNatClampNeg (16 : Int32).toNatClampNeg)) (w + 5) (va_cpy (σ.1 (z + 5)) (σ.1 (w + 5)) (0 : Int32).toNatClampNeg (0 : Int32).toNatClampNeg (16 : Int32).toNatClampNeg)) (w + 6) (va_cpy (σ.1 (z + 6)) (σ.1 (w + 6)) (0 : Int32).toNatClampNeg (0 : Int32).toNatClampNeg (16 : Int32).toNatClampNeg)) (w + 7) (va_cpy (σ.1 (z + 7)) (σ.1 (w + 7)) (0 : Int32).toNatClampNeg (0 : Int32).toNatClampNeg (16 : Int32).toNatClampNeg)) (w + 8) (va_cpy (σ.1 (z + 8)) (σ.1 (w + 8)) (0 : Int32).toNatClampNeg (0 : Int32).toNatClampNeg (Int32.ofNat 144).toNatClampNeg)).1 c = σ.1 c := fun c hc => by
    rw [sC_r, if_neg (by omega), sC_r, if_neg (by omega), sC_r, if_neg (by omega), sC_r, if_neg (by omega), sC_r, if_neg (by omega), sC_r, if_neg (by omega), sC_r, if_neg (by omega), sC_r, if_neg (by omega), sI_r, if_neg (by omega), sL_r, sL_r, sL_r, sI_r, if_neg (by omega)]
  refine ⟨a0, fun c hc => ?_, ?_, ?_, ⟨?_, ?_, ?_⟩, fun j h1 h2 e he => ?_, fun j h1 h2 i hi => ?_, fun x hx => ?_⟩
  · rw [sC_l, sC_l, sC_l, sC_l, sC_l, sC_l, sC_l, sC_l, sI_l, sL_l, if_neg hc, sL_l, if_neg hc, sL_l, if_neg hc]; rfl
  · rw [sC_r, if_neg (by omega), sC_r, if_neg (by omega), sC_r, if_neg (by omega), sC_r, if_neg (by omega), sC_r, if_neg (by omega), sC_r, if_neg (by omega), sC_r, if_neg (by omega), sC_r, if_neg (by omega), sI_r, if_pos rfl, upd_r, if_neg (by decide), sL_r, sL_r, sL_r, sI_r, if_pos rfl, pk_us]
  · rw [sC_r, if_neg (by omega), sC_r, if_neg (by omega), sC_r, if_neg (by omega), sC_r, if_neg (by omega), sC_r, if_neg (by omega), sC_r, if_neg (by omega), sC_r, if_neg (by omega), sC_r, if_neg (by omega), sI_r, if_pos rfl, pk_us]
  · rw [sC_l, sC_l, sC_l, sC_l, sC_l, sC_l, sC_l, sC_l, sI_l, sL_l, if_pos rfl, updL_r, if_neg (by decide), sL_l, if_pos rfl, updL_r, if_neg (by decide), sL_l, if_pos rfl, pk_uLs]
  · rw [sC_l, sC_l, sC_l, sC_l, sC_l, sC_l, sC_l, sC_l, sI_l, sL_l, if_pos rfl, updL_r, if_neg (by decide), sL_l, if_pos rfl, pk_uLs]
  · rw [sC_l, sC_l, sC_l, sC_l, sC_l, sC_l, sC_l, sC_l, sI_l, sL_l, if_pos rfl, pk_uLs]
  · obtain rfl | rfl | rfl : j = 1 ∨ j = 2 ∨ j = 3 := by omega
    · rw [sC_r, if_neg (by omega), sC_r, if_neg (by omega), sC_r, if_neg (by omega), sC_r, if_neg (by omega), sC_r, if_neg (by omega), sC_r, if_neg (by omega), sC_r, if_neg (by omega), sC_r, if_pos rfl]; exact cpy0 (N := 6) he
    · rw [sC_r, if_neg (by omega), sC_r, if_neg (by omega), sC_r, if_neg (by omega), sC_r, if_neg (by omega), sC_r, if_neg (by omega), sC_r, if_neg (by omega), sC_r, if_pos rfl]; exact cpy0 (N := 6) he
    · rw [sC_r, if_neg (by omega), sC_r, if_neg (by omega), sC_r, if_neg (by omega), sC_r, if_neg (by omega), sC_r, if_neg (by omega), sC_r, if_pos rfl]; exact cpy0 (N := 6) he
  · obtain rfl | rfl | rfl | rfl : j = 4 ∨ j = 5 ∨ j = 6 ∨ j = 7 := by omega
    · rw [sC_r, if_neg (by omega), sC_r, if_neg (by omega), sC_r, if_neg (by omega), sC_r, if_neg (by omega), sC_r, if_pos rfl]; exact cpy0 (N := 16) hi
    · rw [sC_r, if_neg (by omega), sC_r, if_neg (by omega), sC_r, if_neg (by omega), sC_r, if_pos rfl]; exact cpy0 (N := 16) hi
    · rw [sC_r, if_neg (by omega), sC_r, if_neg (by omega), sC_r, if_pos rfl]; exact cpy0 (N := 16) hi
    · rw [sC_r, if_neg (by omega), sC_r, if_pos rfl]; exact cpy0 (N := 16) hi
  · rw [sC_r, if_pos rfl, cl16.2.2.1, cl16.2.2.2]; exact cpy0 hx
theorem CS.take {n w z ne : Nat} {th sg ev : Nat → Int32} {s : WS} {σ τ : Hp} (tw : TW n th sg) (hne : ne ≤ 6) (cs : CS n th sg ne ev s z σ) (t : TkW w z σ τ) : CS n th sg ne ev s w τ := by
  obtain ⟨t1, t2, t3, t4, ⟨t5, t6, t7⟩, t8, t9, t10⟩ := t
  exact ⟨cs.1.pt tw hne t3 t4 t8 t9 t10, t5.trans cs.2.1, t6.trans cs.2.2.1, t7.trans cs.2.2.2⟩
theorem c_take {d : Nat} {K : Po} {σ : Hp} {n ne : Nat} {th sg ev : Nat → Int32} {s : WS} (tw : TW n th sg) (hne : ne ≤ 6) (cs : CS n th sg ne ev s 45 σ) (q : ∀ τ : Hp, FrC 56 σ τ → CS n th sg ne ev s 56 τ → K none τ) : CTs (d + 1) y_Wo_take [.ref 56, .ref 45] σ K := p_take (Or.inl ⟨rfl, rfl⟩) (fun τ t => q τ ⟨fun c hc => t.1 c (by omega), fun c h1 _ => t.2.1 c h1⟩ (cs.take tw hne t))
/-! ===== the model's world set aside and put back ===== -/
theorem p_copy {d : Nat} {K : Po} {σ : Hp} {p r N : Nat} (hs : (p = 105 ∧ r = 115) ∨ (p = 106 ∧ r = 116) ∨ (p = 115 ∧ r = 105) ∨ (p = 116 ∧ r = 106)) (hN : N = ln p) (hN2 : N = ln r) (h31 : N < 2 ^ 30) (q : ∀ τ : Hp, τ.2 = σ.2 → (∀ c, c ≠ r → τ.1 c = σ.1 c) → (∀ k, k < N → τ.1 r k = σ.1 p k) → (∀ k, N ≤ k → τ.1 r k = σ.1 r k) → K none τ) : CTs (d + 1) y_M_copy [.ref 98, .ref p, .ref r, .int (nI N)] σ K := by
  refine e_M_copy hs (t_M_copy_0 hs ?_)
  have hpr : p ≠ r := by omega
  have key : ∀ (c k : Nat) (τ : Hp), k + c = N → τ.2 = σ.2 → (∀ c, c ≠ r → τ.1 c = σ.1 c) → (∀ j, j < k → τ.1 r j = σ.1 p j) → (∀ j, k ≤ j → τ.1 r j = σ.1 r j) → WP c_M_copy (CTs d) K (3, [(1, .ref p), (2, .ref r), (3, .int (nI N)), (4, .int (nI k))], []) τ := by
    intro c
    induction c with
    | zero =>
      intro k τ hk t2 t1 tk to
      have ek : k = N := by omega
      rw [ek] at tk to ⊢
      exact t_M_copy_3 hs (ifp (Int32.le_refl _) (q τ t2 t1 tk to))
    | succ c ih =>
      intro k τ hk t2 t1 tk to
      refine t_M_copy_3 hs ?_
      rw [nI_1, nI_clamp (n := k) (by omega), t1 p hpr]
      refine ifn (nI_ge (by omega) (by omega)) ⟨vp_in_nI (by omega) (by omega), vp_in_nI (by omega) (by omega), ih (k + 1) _ (by omega) t2 (fun c hc => by rw [sI_r, if_neg hc]; exact t1 c hc) (fun j hj => ?_) (fun j hj => by rw [sI_r, if_pos rfl, upd_r, if_neg (by omega)]; exact to j (by omega))⟩
      rw [sI_r, if_pos rfl, upd_r]
      by_cases e : j = k
      · rw [if_pos e, e]
      · rw [if_neg e]; exact tk j (by omega)
  exact key N 0 σ (by omega) rfl (fun _ _ => rfl) (fun j hj => absurd hj (by omega)) (fun _ _ => rfl)
/-- a state is set aside -/
def SV (s : WS) (σ : Hp) : Prop := σ.1 98 35 = nI s.2.2.1 ∧ (∀ k, k < 16 → σ.1 115 k = s.1 k) ∧ (∀ k, k < 160 → σ.1 116 k = s.2.1 k) ∧ σ.2 98 38 = s.2.2.2.1 ∧ σ.2 98 39 = s.2.2.2.2.1 ∧ σ.2 98 40 = s.2.2.2.2.2
theorem SV.frM {s : WS} {σ τ : Hp} (h : SV s σ) (f : FrM σ τ) : SV s τ := ⟨(f.2.1 35 (by decide)).trans h.1, fun k hk => by rw [f.1 115 (by decide) (by decide) (by decide) (by decide) (by decide) (by decide)]; exact h.2.1 k hk, fun k hk => by rw [f.1 116 (by decide) (by decide) (by decide) (by decide) (by decide) (by decide)]; exact h.2.2.1 k hk, (f.2.2.2 38 (by decide) (by decide) (by decide)).trans h.2.2.2.1, (f.2.2.2 39 (by decide) (by decide) (by decide)).trans h.2.2.2.2.1, (f.2.2.2 40 (by decide) (by decide) (by decide)).trans h.2.2.2.2.2⟩
theorem m_aside {d : Nat} {K : Po} {σ : Hp} {s : WS} (ms : MS s σ) (q : ∀ τ : Hp, FrN σ τ → τ.1 108 = σ.1 108 → MS s τ → SV s τ → K none τ) : CTs (d + 2) y_M_setAside [.ref 98] σ K := by
  refine e_M_setAside (t_M_setAside_0 (p_copy (N := 16) (Or.inl ⟨rfl, rfl⟩) (by decide) (by decide) (by omega) (fun τ t2 t1 tk to => p_copy (N := 160) (Or.inr (Or.inl ⟨rfl, rfl⟩)) (by decide) (by decide) (by omega) (fun u u2 u1 uk uo => ?_))))
  have off : ∀ c, c ≠ 98 → c ≠ 115 → c ≠ 116 → u.1 c = σ.1 c := fun c h1 h2 h3 => by rw [u1 c h3, t1 c h2, sI_r, if_neg h1]
  have u98 : ∀ x, u.1 98 x = if x = 35 then σ.1 98 19 else σ.1 98 x := fun x => by rw [u1 98 (by decide), t1 98 (by decide), sI_r, if_pos rfl, upd_r]
  have u22 : u.2 = σ.2 := by rw [u2, t2]; rfl
  obtain ⟨m1, m2, m3, m4, m5, m6⟩ := ms
  refine q _ ⟨fun c h => ?_, fun x h1 h2 => ?_, fun c h1 h2 => ?_, fun x h1 h2 h3 h4 h5 h6 => ?_⟩ ?_ ⟨?_, ?_, ?_, ?_, ?_, ?_⟩ ⟨?_, fun k hk => ?_, fun k hk => ?_, ?_, ?_, ?_⟩
  · rw [sL_r, sL_r, sL_r]; exact off c (by omega) (by omega) (by omega)
  · rw [sL_r, sL_r, sL_r, u98, if_neg h2]
  · rw [sL_l, if_neg h1, sL_l, if_neg h1, sL_l, if_neg h1, u22]
  · rw [sL_l, if_pos rfl, updL_r, if_neg h6, sL_l, if_pos rfl, updL_r, if_neg h5, sL_l, if_pos rfl, updL_r, if_neg h4, u22]
  · rw [sL_r, sL_r, sL_r]; exact off 108 (by decide) (by decide) (by decide)
  · rw [sL_r, sL_r, sL_r, off 105 (by decide) (by decide) (by decide)]; exact m1
  · rw [sL_r, sL_r, sL_r, off 106 (by decide) (by decide) (by decide)]; exact m2
  · rw [sL_r, sL_r, sL_r, u98, if_neg (by decide)]; exact m3
  · rw [sL_l, if_pos rfl, updL_r, if_neg (by decide), sL_l, if_pos rfl, updL_r, if_neg (by decide), sL_l, if_pos rfl, updL_r, if_neg (by decide), u22]; exact m4
  · rw [sL_l, if_pos rfl, updL_r, if_neg (by decide), sL_l, if_pos rfl, updL_r, if_neg (by decide), sL_l, if_pos rfl, updL_r, if_neg (by decide), u22]; exact m5
  · rw [sL_l, if_pos rfl, updL_r, if_neg (by decide), sL_l, if_pos rfl, updL_r, if_neg (by decide), sL_l, if_pos rfl, updL_r, if_neg (by decide), u22]; exact m6
  · rw [sL_r, sL_r, sL_r, u98, if_pos rfl]; exact m3
  · rw [sL_r, sL_r, sL_r, u1 115 (by decide), tk k hk, sI_r, if_neg (by decide), m1]
  · rw [sL_r, sL_r, sL_r, uk k hk, t1 106 (by decide), sI_r, if_neg (by decide), m2]
  · rw [sL_l, if_pos rfl, updL_r, if_neg (by decide), sL_l, if_pos rfl, updL_r, if_neg (by decide), sL_l, if_pos rfl, pk_uLs, u22]; exact m4
  · rw [sL_l, if_pos rfl, updL_r, if_neg (by decide), sL_l, if_pos rfl, pk_uLs, u22]; exact m5
  · rw [sL_l, if_pos rfl, pk_uLs, u22]; exact m6
/-- two states are alike behind their rows' ends -/
def Out (s0 s : WS) : Prop := (∀ k, 16 ≤ k → s.1 k = s0.1 k) ∧ ∀ k, 160 ≤ k → s.2.1 k = s0.2.1 k
theorem Out.rf {s : WS} : Out s s := ⟨fun _ _ => rfl, fun _ _ => rfl⟩
theorem evIn_out {n ne : Nat} {th ev am : Nat → Int32} {t : Nat} (hE : ∀ e, e < ne → ∃ j, j < n ∧ ev (3 * e + 1) = nI j ∧ th (20 * j) = 5) (h16 : n ≤ 16) {i : Nat} (hi : 16 ≤ i) : ∀ e, e ≤ ne → evIn ev t e am i = am i
  | 0, _ => rfl
  | e + 1, he => by
    show (if ev (3 * e) = nI t then upd (evIn ev t e am) (sN (ev (3 * e + 1))) (ev (3 * e + 2)) else evIn ev t e am) i = am i
    have ih := evIn_out (am := am) (t := t) hE h16 hi e (by omega)
    by_cases h : ev (3 * e) = nI t
    · obtain ⟨j, hj, e1, e2⟩ := hE e (by omega)
      rw [if_pos h, e1, sN_nI (by omega), pk_un (by omega)]
      exact ih
    · rw [if_neg h]; exact ih
theorem mst_out {th sg V mem : Nat → Int32} {now i : Nat} (hi : 160 ≤ i) : ∀ k, k ≤ 16 → mst th sg V now mem k i = mem i
  | 0, _ => rfl
  | k + 1, hk => by
    show (if th (20 * k) = 2 then upd (mst th sg V now mem k) (10 * k + now % 10) (wrk th sg V k) else mst th sg V now mem k) i = mem i
    by_cases h : th (20 * k) = 2
    · rw [if_pos h, pk_un (by omega)]; exact mst_out hi k (by omega)
    · rw [if_neg h]; exact mst_out hi k (by omega)
theorem Out.stp {n ne : Nat} {th sg ev : Nat → Int32} {s0 s : WS} (tw : TW n th sg) (mw : MW n th s.1 ne ev) (h : Out s0 s) : Out s0 (stp n th sg ne ev s) := by
  have h16 := tw.1
  refine ⟨fun k hk => ?_, fun k hk => ?_⟩
  · show evIn ev (s.2.2.1 + 1) ne (pouK n th s.1 (vto th sg s.1 s.2.1 s.2.2.1 n) n) k = _
    rw [evIn_out mw.2.2 h16 hk ne (Nat.le_refl _)]
    unfold pouK
    rw [if_neg (fun z => absurd z.1 (by omega))]
    exact h.1 k hk
  · show mst th sg _ s.2.2.1 s.2.1 n k = _
    rw [mst_out hk n h16]
    exact h.2 k hk
theorem Out.H {s0 s : WS} {i : Nat} {v : Int32} (hi : i < 16) (h : Out s0 s) : Out s0 (wsH s i v) := ⟨fun k hk => by show upd s.1 i v k = _; rw [pk_un (by omega)]; exact h.1 k hk, h.2⟩
theorem Out.zero {n : Nat} {th : Nat → Int32} {s0 s : WS} (h16 : n ≤ 16) (h : Out s0 s) : Out s0 (ws0 n th s) := ⟨fun k hk => by show am0 n th s.1 k = _; unfold am0; rw [if_neg (by omega)]; exact h.1 k hk, h.2⟩
theorem m_back {d : Nat} {K : Po} {σ : Hp} {s0 s : WS} (ms : MS s0 σ) (ho : Out s s0) (sv : SV s σ) (q : ∀ τ : Hp, FrN σ τ → τ.1 108 = σ.1 108 → MS s τ → K none τ) : CTs (d + 2) y_M_putBack [.ref 98] σ K := by
  refine e_M_putBack (t_M_putBack_0 (p_copy (N := 16) (Or.inr (Or.inr (Or.inl ⟨rfl, rfl⟩))) (by decide) (by decide) (by omega) (fun τ t2 t1 tk to => p_copy (N := 160) (Or.inr (Or.inr (Or.inr ⟨rfl, rfl⟩))) (by decide) (by decide) (by omega) (fun u u2 u1 uk uo => ?_))))
  have off : ∀ c, c ≠ 98 → c ≠ 105 → c ≠ 106 → u.1 c = σ.1 c := fun c h1 h2 h3 => by rw [u1 c h3, t1 c h2, sI_r, if_neg h1]
  have u98 : ∀ x, u.1 98 x = if x = 19 then σ.1 98 35 else σ.1 98 x := fun x => by rw [u1 98 (by decide), t1 98 (by decide), sI_r, if_pos rfl, upd_r]
  have u22 : u.2 = σ.2 := by rw [u2, t2]; rfl
  obtain ⟨m1, m2, m3, m4, m5, m6⟩ := sv
  refine q _ ⟨fun c h => ?_, fun x h1 h2 => ?_, fun c h1 h2 => ?_, fun x h1 h2 h3 h4 h5 h6 => ?_⟩ ?_ ⟨?_, ?_, ?_, ?_, ?_, ?_⟩
  · rw [sL_r, sL_r, sL_r]; exact off c (by omega) (by omega) (by omega)
  · rw [sL_r, sL_r, sL_r, u98, if_neg h1]
  · rw [sL_l, if_neg h1, sL_l, if_neg h1, sL_l, if_neg h1, u22]
  · rw [sL_l, if_pos rfl, updL_r, if_neg h3, sL_l, if_pos rfl, updL_r, if_neg h2, sL_l, if_pos rfl, updL_r, if_neg h1, u22]
  · rw [sL_r, sL_r, sL_r]; exact off 108 (by decide) (by decide) (by decide)
  · funext k
    rw [sL_r, sL_r, sL_r, u1 105 (by decide)]
    by_cases hk : k < 16
    · rw [tk k hk, sI_r, if_neg (by decide)]; exact m2 k hk
    · rw [to k (by omega), sI_r, if_neg (by decide), ms.1]; exact ho.1 k (by omega)
  · funext k
    rw [sL_r, sL_r, sL_r]
    by_cases hk : k < 160
    · rw [uk k hk, t1 116 (by decide), sI_r, if_neg (by decide)]; exact m3 k hk
    · rw [uo k (by omega), t1 106 (by decide), sI_r, if_neg (by decide), ms.2.1]; exact ho.2 k (by omega)
  · rw [sL_r, sL_r, sL_r, u98, if_pos rfl]; exact m1
  · rw [sL_l, if_pos rfl, updL_r, if_neg (by decide), sL_l, if_pos rfl, updL_r, if_neg (by decide), sL_l, if_pos rfl, pk_uLs, u22]; exact m4
  · rw [sL_l, if_pos rfl, updL_r, if_neg (by decide), sL_l, if_pos rfl, pk_uLs, u22]; exact m5
  · rw [sL_l, if_pos rfl, pk_uLs, u22]; exact m6
/-- what is thought leaves the relation -/
theorem Rel.thought {σ τ u : Hp} {n now ne : Nat} (hc : RCore σ n now ne) (hr : RRest σ) (hk : RKept σ) (fc : FrW σ τ) (f5 : ∀ c, 45 ≤ c → c ≤ 53 → τ.1 c = σ.1 c) (l5 : τ.2 45 = σ.2 45) (f78 : τ.1 78 = σ.1 78) (fn : FrN τ u) (f108 : u.1 108 = τ.1 108) (ms : MS (wsOf σ now) u) : Rel u := by
  obtain ⟨a, b, c, ⟨tw, cx, mw, cw, ps, h60⟩, wl⟩ := id hc
  refine ⟨⟨n, now, ne, RCore.of (s := wsOf σ now) ((hc.tx.frW fc).frN fn) ms ((hc.cs.off (fun c h1 h2 => f5 c (by omega) (by omega)) l5).frN (Or.inl rfl) fn) tw ((cx.frW fc).frN fn) mw ?_ h60⟩, hr.same (fc.R.tr fn.R), hk.same (fc.K.tr fn.K)⟩
  rw [f108, fn.1 78 (by omega), f78, fc.1 108 (by omega) (by omega) (by omega)]; exact ps
/-! ===== rest ===== -/
def rst (n : Nat) (th sg : Nat → Int32) (ne : Nat) (ev : Nat → Int32) : Nat → Nat → WS → Int32
  | 0, _, _ => -3
  | c + 1, k, s => if chs n th sg s = 0 then nI k else rst n th sg ne ev c (k + 1) (stp n th sg ne ev s)
theorem p_srest {d : Nat} {K : Po} {n ne m : Nat} {th sg ev : Nat → Int32} (tw : TW n th sg) (hm : m ≤ 200) : ∀ (c k : Nat) (s : WS) (τ : Hp), k + c = m + 1 → CX n th sg (fun j => τ.1 (3 + j)) → CS n th sg ne ev s 56 τ → MW n th s.1 ne ev → s.2.2.1 + c + 1 < 2 ^ 20 → (∀ u : Hp, FrC 56 τ u → K (some (.int (rst n th sg ne ev c k s))) u) → WP c_SS_rest (CTs (d + 5)) K (26, [(0, .ref 0), (1, .int (nI m)), (2, .int (nI k))], []) τ := by
  intro c
  induction c with
  | zero =>
    intro k s τ hk cx cs mw h20 q
    exact t_SS_rest_26 (ifp (nI_lt (by omega) (by omega)) (q τ FrC.rf))
  | succ c ih =>
    intro k s τ hk cx cs mw h20 q
    refine t_SS_rest_26 (ifn (nI_nlt (by omega) (by omega)) (c_adv (Or.inr rfl) tw cx cs mw (by omega) (fun u f cu => ?_)))
    have hq : ∀ y : Hp, FrC 56 τ y → K (some (.int (if chs n th sg s = 0 then nI k else rst n th sg ne ev c (k + 1) (stp n th sg ne ev s)))) y := q
    refine ite2 (fun e => ?_) (fun e => ?_)
    · have := hq u f
      rw [if_pos (show chs n th sg s = 0 from e)] at this; exact this
    · rw [nI_1]
      refine ih (k + 1) _ u (by omega) (cx.fr (Or.inr rfl) f) cu (MW.step tw mw) (by show s.2.2.1 + 1 + c + 1 < _; omega) (fun y fy => ?_)
      have := hq y (f.tr fy)
      rw [if_neg (show ¬ chs n th sg s = 0 from e)] at this; exact this
theorem p_mrest {d : Nat} {K : Po} {n ne m : Nat} {th sg ev : Nat → Int32} {s0 : WS} (tw : TW n th sg) (hm : m ≤ 200) : ∀ (c k : Nat) (s : WS) (τ : Hp), k + c = m + 1 → TxM n th sg ne ev τ → MS s τ → Out s0 s → SV s0 τ → MW n th s.1 ne ev → s.2.2.1 + c + 1 < 2 ^ 20 → (∀ u : Hp, FrN τ u → u.1 108 = τ.1 108 → MS s0 u → K (some (.int (rst n th sg ne ev c k s))) u) → WP c_M_rest (CTs (d + 5)) K (19, [(0, .ref 98), (1, .int (nI m)), (2, .int (nI k))], []) τ := by
  intro c
  induction c with
  | zero =>
    intro k s τ hk tx ms ho sv mw h20 q
    exact t_M_rest_19 (ifp (nI_lt (by omega) (by omega)) (m_back ms ho sv (fun u f f8 ma => ifn (nI_ge (by omega) (by omega)) (q u f f8 ma))))
  | succ c ih =>
    intro k s τ hk tx ms ho sv mw h20 q
    refine t_M_rest_19 (ifn (nI_nlt (by omega) (by omega)) (m_adv tw tx ms mw (by omega) (fun u f mu => ?_)))
    have u8 : u.1 108 = τ.1 108 := f.1 108 (by decide) (by decide) (by decide) (by decide) (by decide) (by decide)
    have hq : ∀ y : Hp, FrN τ y → y.1 108 = τ.1 108 → MS s0 y → K (some (.int (if chs n th sg s = 0 then nI k else rst n th sg ne ev c (k + 1) (stp n th sg ne ev s)))) y := q
    refine ite2 (fun e => m_back mu (ho.stp tw mw) (sv.frM f) (fun y fy y8 ma => ifp (nI_le (by omega) (by omega)) ?_)) (fun e => ?_)
    · have := hq y (f.N.tr fy) (y8.trans u8) ma
      rw [if_pos (show chs n th sg s = 0 from e)] at this; exact this
    · rw [nI_1]
      refine ih (k + 1) _ u (by omega) (tx.to f) mu (ho.stp tw mw) (sv.frM f) (MW.step tw mw) (by show s.2.2.1 + 1 + c + 1 < _; omega) (fun y fy y8 ma => ?_)
      have := hq y (f.N.tr fy) (y8.trans u8) ma
      rw [if_neg (show ¬ chs n th sg s = 0 from e)] at this; exact this
theorem op_rest : O_rest Rel := by
  intro σ a1 h
  obtain ⟨⟨n, now, ne, hc⟩, hr, hkp⟩ := id h
  obtain ⟨a, b, c, ⟨tw, cx, mw, cw, ps, h60⟩, wl⟩ := id hc
  have h16 := tw.1
  refine e_SS_rest (t_SS_rest_0 ?_)
  by_cases hin : a1 < 0 ∨ 200 < a1
  · have hm : CTs 60 y_M_rest [.ref 98, .int a1] σ (fun r' σ2 => oI (some (.int (-1 : Int32))) = oI r' ∧ Rel σ2) := e_M_rest (t_M_rest_0 (p_in0 hin (o0 ⟨rfl, h⟩)))
    refine ite2 (fun _ => hm) (fun h1 => ifn ?_ hm)
    rcases hin with z | z
    · exact absurd z h1
    · exact Int32.not_le.mpr z
  have h1 : ¬ a1 < 0 := fun z => hin (Or.inl z)
  have h2 : ¬ 200 < a1 := fun z => hin (Or.inr z)
  obtain ⟨m, hm, rfl⟩ := nI_of2 (M := 200) (n := 200) (by decide) h1 (Int32.not_lt.mp h2)
  refine ifn h1 (ifp (Int32.not_lt.mp h2) (c_take tw mw.2.1 hc.cs (fun τ f ct => ?_)))
  refine p_srest (s := wsOf σ now) (ne := ne) tw hm (m + 1) 0 τ (by omega) (cx.fr (Or.inr rfl) f) ct mw (by show now + (m + 1) + 1 < _; omega) (fun u fu => ?_)
  have fw := (f.tr fu).W (Or.inr rfl)
  have tx := hc.tx.frW fw
  refine e_M_rest (t_M_rest_0 (p_in1 h1 h2 (o1 (m_aside (hc.ms.frW fw) (fun v fv v8 mv sv => p_mrest (s := wsOf σ now) (ne := ne) tw hm (m + 1) 0 v (by omega) (tx.frN fv) mv Out.rf sv mw (by show now + (m + 1) + 1 < _; omega) (fun y fy y8 ma => ⟨rfl, ?_⟩))))))
  exact Rel.thought hc hr hkp fw (fun c h1 h2 => (f.tr fu).1 c (by omega)) ((f.tr fu).2 45 (by decide) (by decide)) ((f.tr fu).1 78 (by omega)) (fv.tr fy) (y8.trans v8) ma
