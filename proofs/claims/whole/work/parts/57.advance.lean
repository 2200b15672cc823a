/-! ===== advance; what tokens are ===== -/
theorem lN27 {x c : Nat} (h : 96 ≤ c) (hc : c < 256) : (27 : Int64) * lN x + (nI c).toInt64 - 96 = lN (x * 27 + (c - 96)) := by
  rw [nI_l (by omega), show (27 : Int64) = lN 27 from rfl, show (96 : Int64) = lN 96 from rfl, lN_mul, lN_add, lN_sub (by omega)]
  congr 1
  omega
theorem nI10 {x c : Nat} (h : 48 ≤ c) : (10 : Int32) * nI x + nI c - 48 = nI (x * 10 + (c - 48)) := by
  rw [show (10 : Int32) = nI 10 from rfl, show (48 : Int32) = nI 48 from rfl, pk_mul, nI_add, pk_sub (by omega)]
  congr 1
  omega
set_option maxHeartbeats 2000000 in
theorem p_adv {d : Nat} {K : Po} {b : Nat → Nat} {m p : Nat} {σ : Hp} (hpm : p ≤ m) (tp : TpM b m σ) (h7 : σ.1 98 7 = nI p) (q : ∀ τ : Hp, FrT σ τ → MTk b (tkA b m p) τ → K none τ) : CTs (d + 3) y_M_advance [.ref 98] σ K := by
  have hm3 := tp.1
  have hb256 : ∀ p, p < m → b p < 256 := fun p hp => (tp.2.2 p hp).2
  have g207 : ∀ (τ : Hp), ¬ τ.1 98 5 = 2 → K none τ → WP c_M_advance (CTs (d + 2)) K (207, [(0, .ref 98)], []) τ := fun τ h k => t_M_advance_207 (ifn h k)
  have g126 : ∀ (τ : Hp), ¬ τ.1 98 5 = 1 → ¬ τ.1 98 5 = 2 → K none τ → WP c_M_advance (CTs (d + 2)) K (126, [(0, .ref 98)], []) τ := fun τ h1 h2 k => t_M_advance_126 (ifn h1 (g207 τ h2 k))
  -- words
  have kW : ∀ (st : Nat), (∀ τ : Hp, FrT σ τ → τ.1 98 5 = nI 1 → τ.1 98 6 = nI st → τ.1 98 7 = nI (run b m 1 (m - st) st) → τ.2 98 8 = (if run b m 1 (m - st) st - st ≤ 6 then lN (vl b 27 96 st (min 6 (run b m 1 (m - st) st - st))) else -1) → K none τ) → ∀ (c k : Nat) (τ : Hp), st + k + c = m → FrT σ τ → run b m 1 (m - (st + k)) (st + k) = run b m 1 (m - st) st → τ.1 98 5 = nI 1 → τ.1 98 6 = nI st → τ.1 98 7 = nI (st + k) → τ.2 98 8 = (if k ≤ 6 then lN (vl b 27 96 st (min 6 k)) else -1) → WP c_M_advance (CTs (d + 2)) K (126, [(0, .ref 98)], []) τ := by
    intro st qq c
    induction c with
    | zero =>
      intro k τ hk f er t5 t6 t7 t8
      have e : run b m 1 (m - (st + k)) (st + k) = st + k := by rw [show m - (st + k) = 0 by omega]; rfl
      rw [e] at er
      refine t_M_advance_126 ?_
      rw [t5, t7]
      refine ifp rfl (p_byteAt (tp.fr f) (by omega) (p_isLet (fun z => hb256 _ z) ?_))
      rw [show (if srtB b m (st + k) = 1 then (1 : Int32) else 0) = 0 from if_neg (fun z => by rw [srtB_0.mpr (by omega)] at z; omega)]
      refine ifp rfl (g207 τ (by rw [t5]; decide) (qq τ f t5 t6 (by rw [← er]; exact t7) (by rw [← er, show st + k - st = k by omega]; exact t8)))
    | succ c ih =>
      intro k τ hk f er t5 t6 t7 t8
      have hlt : st + k < m := by omega
      refine t_M_advance_126 ?_
      rw [t5, t7]
      refine ifp rfl (p_byteAt (tp.fr f) (by omega) (p_isLet (fun z => hb256 _ z) ?_))
      by_cases e : srtB b m (st + k) = 1
      · have er' : run b m 1 (m - (st + (k + 1))) (st + (k + 1)) = run b m 1 (m - st) st := by rw [← er, run_s hlt e]; rfl
        rw [show (if srtB b m (st + k) = 1 then (1 : Int32) else 0) = 1 from if_pos e]
        refine ifn (by decide) ?_
        rw [t7, t6, pk_sub (by omega), show st + k - st = k by omega, nI_1 (st + k), t8]
        have hs := srt1 e
        by_cases hk6 : k < 6
        · refine ifn (nI_ge (b := 6) hk6 (by omega)) (p_byteAt (tp.fr f) (by omega) ?_)
          have e1 : oI (some (.int (if st + k < m then nI (b (st + k)) else -1))) = nI (b (st + k)) := by show (if st + k < m then nI (b (st + k)) else -1) = _; rw [if_pos hlt]
          rw [e1, t7, nI_1 (st + k), if_pos (show k ≤ 6 by omega), lN27 (by omega) (by omega), ← vl_step hk6]
          refine ih (k + 1) _ (by omega) ((f.tr FrT.l).tr (FrT.s (by omega))) er' ?_ ?_ ?_ ?_
          · rw [sI_r, if_pos rfl, upd_r, if_neg (by decide), sL_r]; exact t5
          · rw [sI_r, if_pos rfl, upd_r, if_neg (by decide), sL_r]; exact t6
          · rw [sI_r, if_pos rfl, pk_us]; rfl
          · rw [sI_l, sL_l, if_pos rfl, pk_uLs, if_pos (show k + 1 ≤ 6 by omega)]
        · refine ifp (nI_le (a := 6) (by omega) (by omega)) ?_
          refine ih (k + 1) _ (by omega) ((f.tr FrT.l).tr (FrT.s (by omega))) er' ?_ ?_ ?_ ?_
          · rw [sI_r, if_pos rfl, upd_r, if_neg (by decide), sL_r]; exact t5
          · rw [sI_r, if_pos rfl, upd_r, if_neg (by decide), sL_r]; exact t6
          · rw [sI_r, if_pos rfl, pk_us]; rfl
          · rw [sI_l, sL_l, if_pos rfl, pk_uLs, if_neg (show ¬ k + 1 ≤ 6 by omega)]
      · rw [run_n e] at er
        rw [show (if srtB b m (st + k) = 1 then (1 : Int32) else 0) = 0 from if_neg e]
        refine ifp rfl (g207 τ (by rw [t5]; decide) (qq τ f t5 t6 (by rw [← er]; exact t7) (by rw [← er, show st + k - st = k by omega]; exact t8)))
  have kD : ∀ (st : Nat), (∀ τ : Hp, FrT σ τ → τ.1 98 5 = nI 2 → τ.1 98 6 = nI st → τ.1 98 7 = nI (run b m 2 (m - st) st) → τ.1 98 9 = (if run b m 2 (m - st) st - st ≤ 5 then nI (vl b 10 48 st (min 5 (run b m 2 (m - st) st - st))) else -1) → K none τ) → ∀ (c k : Nat) (τ : Hp), st + k + c = m → FrT σ τ → run b m 2 (m - (st + k)) (st + k) = run b m 2 (m - st) st → τ.1 98 5 = nI 2 → τ.1 98 6 = nI st → τ.1 98 7 = nI (st + k) → τ.1 98 9 = (if k ≤ 5 then nI (vl b 10 48 st (min 5 k)) else -1) → WP c_M_advance (CTs (d + 2)) K (207, [(0, .ref 98)], []) τ := by
    intro st qq c
    induction c with
    | zero =>
      intro k τ hk f er t5 t6 t7 t8
      have e : run b m 2 (m - (st + k)) (st + k) = st + k := by rw [show m - (st + k) = 0 by omega]; rfl
      rw [e] at er
      refine t_M_advance_207 ?_
      rw [t5, t7]
      refine ifp rfl (p_byteAt (tp.fr f) (by omega) (p_isDig (fun z => hb256 _ z) ?_))
      rw [show (if srtB b m (st + k) = 2 then (1 : Int32) else 0) = 0 from if_neg (fun z => by rw [srtB_0.mpr (by omega)] at z; omega)]
      refine ifp rfl (qq τ f t5 t6 (by rw [← er]; exact t7) (by rw [← er, show st + k - st = k by omega]; exact t8))
    | succ c ih =>
      intro k τ hk f er t5 t6 t7 t8
      have hlt : st + k < m := by omega
      refine t_M_advance_207 ?_
      rw [t5, t7]
      refine ifp rfl (p_byteAt (tp.fr f) (by omega) (p_isDig (fun z => hb256 _ z) ?_))
      by_cases e : srtB b m (st + k) = 2
      · have er' : run b m 2 (m - (st + (k + 1))) (st + (k + 1)) = run b m 2 (m - st) st := by rw [← er, run_s hlt e]; rfl
        rw [show (if srtB b m (st + k) = 2 then (1 : Int32) else 0) = 1 from if_pos e]
        refine ifn (by decide) ?_
        rw [t7, t6, pk_sub (by omega), show st + k - st = k by omega, nI_1 (st + k), t8]
        have hs := srt2 e
        by_cases hk6 : k < 5
        · refine ifn (nI_ge (b := 5) hk6 (by omega)) (p_byteAt (tp.fr f) (by omega) ?_)
          have e1 : oI (some (.int (if st + k < m then nI (b (st + k)) else -1))) = nI (b (st + k)) := by show (if st + k < m then nI (b (st + k)) else -1) = _; rw [if_pos hlt]
          rw [e1, t7, nI_1 (st + k), if_pos (show k ≤ 5 by omega), nI10 (by omega), ← vl_step hk6]
          refine ih (k + 1) _ (by omega) ((f.tr (FrT.s (by omega))).tr (FrT.s (by omega))) er' ?_ ?_ ?_ ?_
          · rw [sI_r, if_pos rfl, upd_r, if_neg (by decide), sI_r, if_pos rfl, upd_r, if_neg (by decide)]; exact t5
          · rw [sI_r, if_pos rfl, upd_r, if_neg (by decide), sI_r, if_pos rfl, upd_r, if_neg (by decide)]; exact t6
          · rw [sI_r, if_pos rfl, pk_us]; rfl
          · rw [sI_r, if_pos rfl, upd_r, if_neg (by decide), sI_r, if_pos rfl, pk_us, if_pos (show k + 1 ≤ 5 by omega)]
        · refine ifp (nI_le (a := 5) (by omega) (by omega)) ?_
          refine ih (k + 1) _ (by omega) ((f.tr (FrT.s (by omega))).tr (FrT.s (by omega))) er' ?_ ?_ ?_ ?_
          · rw [sI_r, if_pos rfl, upd_r, if_neg (by decide), sI_r, if_pos rfl, upd_r, if_neg (by decide)]; exact t5
          · rw [sI_r, if_pos rfl, upd_r, if_neg (by decide), sI_r, if_pos rfl, upd_r, if_neg (by decide)]; exact t6
          · rw [sI_r, if_pos rfl, pk_us]; rfl
          · rw [sI_r, if_pos rfl, upd_r, if_neg (by decide), sI_r, if_pos rfl, pk_us, if_neg (show ¬ k + 1 ≤ 5 by omega)]
      · rw [run_n e] at er
        rw [show (if srtB b m (st + k) = 2 then (1 : Int32) else 0) = 0 from if_neg e]
        refine ifp rfl (qq τ f t5 t6 (by rw [← er]; exact t7) (by rw [← er, show st + k - st = k by omega]; exact t8))
  have k8 : ∀ (c p : Nat) (τ : Hp), p + c = m → FrT σ τ → τ.1 98 6 = nI p → (∀ u : Hp, FrT σ u → MTk b (tkA b m p) u → K none u) → WP c_M_advance (CTs (d + 2)) K (8, [(0, .ref 98)], []) τ := by
    intro c
    induction c with
    | zero =>
      intro p τ hpc f t6 q
      have hn : ¬ (p < m ∧ b p = 32) := fun z => absurd z.1 (by omega)
      have hsr : srtB b m p = 0 := srtB_0.mpr (by omega)
      rw [tkA_n hn, hsr, if_pos rfl] at q
      refine t_M_advance_8 ?_
      rw [t6]
      refine p_byteAt (tp.fr f) (by omega) ?_
      rw [if_neg (show ¬ p < m by omega)]
      refine ifn (by decide) ?_
      rw [t6]
      have f7 : FrT σ (sI τ 98 7 (nI p)) := f.tr (FrT.s (by omega))
      refine p_byteAt (tp.fr f7) (by omega) ?_
      rw [if_neg (show ¬ p < m by omega)]
      refine ifn (by decide) (ifn (by decide) (ifn (by decide) ?_))
      generalize hS : sI (sL (sI (sI τ 98 7 (nI p)) 98 5 (0 : Int32)) 98 8 (0 : Int64)) 98 9 (oI (some (.int (-1)))) = S
      have fS : FrT σ S := by rw [← hS]; exact ((f7.tr (FrT.s (by omega))).tr FrT.l).tr (FrT.s (by omega))
      have S5 : S.1 98 5 = nI 0 := by rw [← hS, sI_r, if_pos rfl, upd_r, if_neg (by decide), sL_r, sI_r, if_pos rfl, pk_us]; rfl
      have S6 : S.1 98 6 = nI p := by rw [← hS, sI_r, if_pos rfl, upd_r, if_neg (by decide), sL_r, sI_r, if_pos rfl, upd_r, if_neg (by decide), sI_r, if_pos rfl, upd_r, if_neg (by decide)]; exact t6
      have S7 : S.1 98 7 = nI p := by rw [← hS, sI_r, if_pos rfl, upd_r, if_neg (by decide), sL_r, sI_r, if_pos rfl, upd_r, if_neg (by decide), sI_r, if_pos rfl, pk_us]
      exact g126 S (by rw [S5]; decide) (by rw [S5]; decide) (q S fS ⟨S5, S6, S7, (fun z => by cases z), (fun z => by cases z), (fun z => by cases z)⟩)
    | succ c ih =>
      intro p τ hpc f t6 q
      have hlt : p < m := by omega
      have hbp := hb256 p hlt
      refine t_M_advance_8 ?_
      rw [t6]
      refine p_byteAt (tp.fr f) (by omega) ?_
      rw [if_pos hlt, t6, nI_1 p]
      by_cases e32 : b p = 32
      · rw [tkA_s hlt e32] at q
        exact ifp (by rw [e32]; rfl) (ih (p + 1) _ (by omega) (f.tr (FrT.s (by omega))) (by rw [sI_r, if_pos rfl, pk_us]) q)
      · have hn : ¬ (p < m ∧ b p = 32) := fun z => e32 z.2
        refine ifn (fun z => e32 ((nI_eq (b := 32) (by omega) (by omega)).mp z)) ?_
        have f7 : FrT σ (sI τ 98 7 (nI p)) := f.tr (FrT.s (by omega))
        have a7 : (sI τ 98 7 (nI p)).1 98 7 = nI p := by rw [sI_r, if_pos rfl, pk_us]
        have a6 : (sI τ 98 7 (nI p)).1 98 6 = nI p := by rw [sI_r, if_pos rfl, upd_r, if_neg (by decide)]; exact t6
        refine p_byteAt (tp.fr f7) (by omega) ?_
        have hL := fun (K' : Po) (k : K' (some (.int (if srtB b m p = 1 then 1 else 0))) (sI τ 98 7 (nI p))) => p_isLet (d := d) (σ := sI τ 98 7 (nI p)) (b := b) (m := m) (p := p) (fun z => hb256 _ z) k
        have hD := fun (K' : Po) (k : K' (some (.int (if srtB b m p = 2 then 1 else 0))) (sI τ 98 7 (nI p))) => p_isDig (d := d) (σ := sI τ 98 7 (nI p)) (b := b) (m := m) (p := p) (fun z => hb256 _ z) k
        rw [if_pos hlt] at hL hD
        rw [if_pos hlt]
        refine ifp (nI_pos' (by omega)) (hL _ ?_)
        rw [tkA_n hn] at q
        have h0 : ¬ srtB b m p = 0 := fun z => absurd (srtB_0.mp z) (by omega)
        rw [if_neg h0] at q
        obtain e | e | e : srtB b m p = 1 ∨ srtB b m p = 2 ∨ srtB b m p = 3 := by have := srtB_le (b := b) (m := m) (p := p); omega
        · rw [e, if_neg (by decide)] at q
          rw [e]
          refine ifn (by decide) (ifn (by decide) (ifn (by decide) ?_))
          refine kW p (fun u fu u5 u6 u7 u8 => q u fu ⟨u5, u6, u7, fun _ => u8, (fun z => by cases z), (fun z => by cases z)⟩) (m - p) 0 _ (by omega) (((f7.tr (FrT.s (by omega))).tr FrT.l).tr (FrT.s (by omega))) rfl ?_ ?_ ?_ ?_
          · rw [sI_r, if_pos rfl, upd_r, if_neg (by decide), sL_r, sI_r, if_pos rfl, pk_us]; rfl
          · rw [sI_r, if_pos rfl, upd_r, if_neg (by decide), sL_r, sI_r, if_pos rfl, upd_r, if_neg (by decide)]; exact a6
          · rw [sI_r, if_pos rfl, upd_r, if_neg (by decide), sL_r, sI_r, if_pos rfl, upd_r, if_neg (by decide)]; exact a7
          · rw [sI_l, sL_l, if_pos rfl, pk_uLs]; rfl
        · rw [e, if_neg (by decide)] at q
          rw [e] at hD
          rw [e]
          refine ifp rfl (hD _ (ifn (by decide) (ifp rfl (ifn (by decide) ?_))))
          refine t_M_advance_126 (ifn ?_ ?_)
          · rw [sI_r, if_pos rfl, upd_r, if_neg (by decide), sL_r, sI_r, if_pos rfl, pk_us]; decide
          refine kD p (fun u fu u5 u6 u7 u8 => q u fu ⟨u5, u6, u7, (fun z => by cases z), fun _ => u8, (fun z => by cases z)⟩) (m - p) 0 _ (by omega) (((f7.tr (FrT.s (by omega))).tr FrT.l).tr (FrT.s (by omega))) rfl ?_ ?_ ?_ ?_
          · rw [sI_r, if_pos rfl, upd_r, if_neg (by decide), sL_r, sI_r, if_pos rfl, pk_us]; rfl
          · rw [sI_r, if_pos rfl, upd_r, if_neg (by decide), sL_r, sI_r, if_pos rfl, upd_r, if_neg (by decide)]; exact a6
          · rw [sI_r, if_pos rfl, upd_r, if_neg (by decide), sL_r, sI_r, if_pos rfl, upd_r, if_neg (by decide)]; exact a7
          · rw [sI_r, if_pos rfl, pk_us]; rfl
        · rw [e, if_pos rfl] at q
          rw [e] at hD
          rw [e]
          refine ifp rfl (hD _ (ifp rfl (ifn (by decide) (ifp rfl ?_))))
          rw [a7, nI_1 p]
          generalize hS : sI (sI (sL (sI (sI τ 98 7 (nI p)) 98 5 (3 : Int32)) 98 8 (0 : Int64)) 98 9 (oI (some (.int (nI (b p)))))) 98 7 (nI (p + 1)) = S
          have fS : FrT σ S := by rw [← hS]; exact (((f7.tr (FrT.s (by omega))).tr FrT.l).tr (FrT.s (by omega))).tr (FrT.s (by omega))
          have S5 : S.1 98 5 = nI 3 := by rw [← hS, sI_r, if_pos rfl, upd_r, if_neg (by decide), sI_r, if_pos rfl, upd_r, if_neg (by decide), sL_r, sI_r, if_pos rfl, pk_us]; rfl
          have S6 : S.1 98 6 = nI p := by rw [← hS, sI_r, if_pos rfl, upd_r, if_neg (by decide), sI_r, if_pos rfl, upd_r, if_neg (by decide), sL_r, sI_r, if_pos rfl, upd_r, if_neg (by decide)]; exact a6
          have S7 : S.1 98 7 = nI (p + 1) := by rw [← hS, sI_r, if_pos rfl, pk_us]
          have S9 : S.1 98 9 = nI (b p) := by rw [← hS, sI_r, if_pos rfl, upd_r, if_neg (by decide), sI_r, if_pos rfl, pk_us]; rfl
          exact g126 S (by rw [S5]; decide) (by rw [S5]; decide) (q S fS ⟨S5, S6, S7, (fun z => by cases z), (fun z => by cases z), fun _ => S9⟩)
  refine e_M_advance (t_M_advance_0 ?_)
  rw [h7]
  exact k8 (m - p) p _ (by omega) (FrT.s (by omega)) (by rw [sI_r, if_pos rfl, pk_us]) q
theorem p_av {d : Nat} {K : Po} {b : Nat → Nat} {m j : Nat} {σ : Hp} (tp : TpM b m σ) (ct : MTk b (tk b m j) σ) (q : ∀ τ : Hp, FrT σ τ → MTk b (tk b m (j + 1)) τ → K none τ) : CTs (d + 3) y_M_advance [.ref 98] σ K := p_adv (tk_ok (b := b) (m := m) j).2.2.1 tp ct.2.2.1 q
