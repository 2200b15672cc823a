/-! ===== run ===== -/
def its (n : Nat) (th sg : Nat → Int32) (ne : Nat) (ev : Nat → Int32) : Nat → WS → WS
  | 0, s => s
  | k + 1, s => stp n th sg ne ev (its n th sg ne ev k s)
theorem its_now {n ne : Nat} {th sg ev : Nat → Int32} {s : WS} : ∀ k, (its n th sg ne ev k s).2.2.1 = s.2.2.1 + k
  | 0 => rfl
  | k + 1 => by
    show (its n th sg ne ev k s).2.2.1 + 1 = _
    rw [its_now k]; omega
theorem its_MW {n ne : Nat} {th sg ev : Nat → Int32} {s : WS} (tw : TW n th sg) (mw : MW n th s.1 ne ev) : ∀ k, MW n th (its n th sg ne ev k s).1 ne ev
  | 0 => mw
  | k + 1 => MW.step tw (its_MW tw mw k)
/-- what stood at a step that was left -/
def pss (n : Nat) (th sg : Nat → Int32) (ne : Nat) (ev : Nat → Int32) (s : WS) (P : Nat → Int32) (t i : Nat) : Int32 := if t < s.2.2.1 then P (16 * t + i) else vls n th sg (its n th sg ne ev (t - s.2.2.1) s) i
theorem p_srun {d : Nat} {K : Po} {σ : Hp} {n ne m : Nat} {th sg ev : Nat → Int32} {s : WS} (tw : TW n th sg) (cx : CX n th sg (fun j => σ.1 (3 + j))) (cs : CS n th sg ne ev s 45 σ) (mw : MW n th s.1 ne ev) (h60 : s.2.2.1 + m ≤ 60)
    (q : ∀ τ : Hp, FrW σ τ → CS n th sg ne ev (its n th sg ne ev m s) 45 τ → (∀ t i, t < s.2.2.1 + m → i < n → τ.1 78 (16 * t + i) = pss n th sg ne ev s (σ.1 78) t i) → K (some (.int (nI (s.2.2.1 + m)))) τ) : ∀ (c k : Nat) (τ : Hp), k + c = m → FrW σ τ → CS n th sg ne ev (its n th sg ne ev k s) 45 τ → (∀ t i, t < s.2.2.1 + k → i < n → τ.1 78 (16 * t + i) = pss n th sg ne ev s (σ.1 78) t i) → WP c_SS_run (CTs (d + 5)) K (32, [(0, .ref 0), (1, .int (nI m)), (2, .int (nI k))], []) τ := by
  have h16 := tw.1
  intro c
  induction c with
  | zero =>
    intro k τ hk f cs tp
    have ek : k = m := by omega
    rw [ek] at cs tp ⊢
    refine t_SS_run_32 (ifp (Int32.le_refl _) ?_)
    have e0 : τ.1 45 0 = nI (s.2.2.1 + m) := by rw [← its_now (n := n) (ne := ne) (th := th) (sg := sg) (ev := ev) m]; exact cs.1.1
    rw [e0]
    exact q τ f cs tp
  | succ c ih =>
    intro k τ hk f cs tp
    have e0 : τ.1 45 0 = nI (s.2.2.1 + k) := by rw [← its_now (n := n) (ne := ne) (th := th) (sg := sg) (ev := ev) k]; exact cs.1.1
    have e1 : nI (s.2.2.1 + k) * (16 : Int32) = nI (16 * (s.2.2.1 + k)) := by rw [show (16 : Int32) = nI 16 from rfl, pk_mul, Nat.mul_comm]
    refine t_SS_run_32 ?_
    rw [e0, e1, nI_1]
    have hcl : (nI (16 * (s.2.2.1 + k))).toNatClampNeg = 16 * (s.2.2.1 + k) := nI_clamp (by omega)
    rw [hcl]
    refine ifn (nI_ge (by omega) (by omega)) ⟨⟨by decide, nI_pos (by omega), by decide, by decide, by show 16 * (s.2.2.1 + k) + 16 ≤ 976; omega⟩, ?_⟩
    generalize hH : sC τ 78 (va_cpy (τ.1 50) (τ.1 78) (0 : Int32).toNatClampNeg (16 * (s.2.2.1 + k)) (16 : Int32).toNatClampNeg) = H
    have r1 : ∀ c, c ≠ 78 → H.1 c = τ.1 c := fun c hc => by rw [← hH, sC_r, if_neg hc]
    have r2 : H.2 = τ.2 := by rw [← hH, sC_l]
    have fH : FrW τ H := ⟨fun c _ h _ => r1 c h, fun c _ => by rw [r2]⟩
    refine c_adv (s := its n th sg ne ev k s) (Or.inl rfl) tw ((cx.frW f).frW fH) (cs.off (fun c h1 h2 => r1 c (by omega)) (by rw [r2])) (its_MW tw mw k) (by rw [its_now]; omega) (fun u fu cu => ?_)
    refine ih (k + 1) u (by omega) ((f.tr fH).tr (fu.W (Or.inl rfl))) cu (fun t i ht hi => ?_)
    rw [fu.1 78 (by omega), ← hH, sC_r, if_pos rfl]
    by_cases e : t = s.2.2.1 + k
    · rw [pk_cpy_in (by omega) (by show 16 * t + i < 16 * (s.2.2.1 + k) + 16; omega)]
      show τ.1 50 (0 + (16 * t + i - 16 * (s.2.2.1 + k))) = _
      rw [show 0 + (16 * t + i - 16 * (s.2.2.1 + k)) = i by omega]
      unfold pss
      rw [if_neg (by omega), show t - s.2.2.1 = k by omega]
      exact cs.1.2.2.2.2.1 i hi
    · rw [pk_cpy_out (by show _ ∨ 16 * (s.2.2.1 + k) + 16 ≤ _; omega)]
      exact tp t i (by omega) hi
theorem FrN.m108 {τ : Hp} {k : Nat} {v : Int32} : FrN τ (sI τ 108 k v) := ⟨fun c h => by rw [sI_r, if_neg (by omega)], fun x _ _ => by rw [sI_r, if_neg (by decide)], fun _ _ _ => rfl, fun _ _ _ _ _ _ _ => rfl⟩
theorem MS.off {s : WS} {σ τ : Hp} (h : MS s σ) (h5 : τ.1 105 = σ.1 105) (h6 : τ.1 106 = σ.1 106) (h8 : τ.1 98 19 = σ.1 98 19) (h2 : τ.2 98 = σ.2 98) : MS s τ := ⟨h5.trans h.1, h6.trans h.2.1, h8.trans h.2.2.1, by rw [h2]; exact h.2.2.2.1, by rw [h2]; exact h.2.2.2.2.1, by rw [h2]; exact h.2.2.2.2.2⟩
/-- findValues, as a state sees it -/
theorem m_vals {d : Nat} {K : Po} {σ : Hp} {n ne : Nat} {th sg ev : Nat → Int32} {s : WS} (tw : TW n th sg) (tx : TxM n th sg ne ev σ) (ms : MS s σ) (h20 : s.2.2.1 < 2 ^ 20) (q : ∀ τ : Hp, FrV σ τ → (∀ j, j < n → τ.1 110 j = vls n th sg s j) → K none τ) : CTs (d + 4) y_M_findValues [.ref 98] σ K := by
  obtain ⟨x1, x2, x3, x4, x5⟩ := tx
  refine p_findValues (n := n) (now := s.2.2.1) x1 ms.2.2.1 h20 (by rw [x2, x3]; exact tw) (fun τ t2 t1 tv tf => q τ ⟨t2, t1⟩ (fun j hj => ?_))
  rw [tv j hj, x2, x3, ms.1, ms.2.1]
  rfl
theorem FrV.ms {s : WS} {σ τ : Hp} (f : FrV σ τ) (h : MS s σ) : MS s τ := h.off (f.2 105 (by decide) (by decide) (by decide)) (f.2 106 (by decide) (by decide) (by decide)) (by rw [f.2 98 (by decide) (by decide) (by decide)]) (by rw [f.1])
set_option maxHeartbeats 1000000 in
theorem p_mrun {d : Nat} {K : Po} {σ : Hp} {n ne m : Nat} {th sg ev : Nat → Int32} {s : WS} (tw : TW n th sg) (tx : TxM n th sg ne ev σ) (mw : MW n th s.1 ne ev) (h60 : s.2.2.1 + m ≤ 60)
    (q : ∀ τ : Hp, FrN σ τ → MS (its n th sg ne ev m s) τ → (∀ t i, t < s.2.2.1 + m → i < n → τ.1 108 (16 * t + i) = pss n th sg ne ev s (σ.1 108) t i) → K (some (.int (nI (s.2.2.1 + m)))) τ) : ∀ (c k : Nat) (τ : Hp), k + c = m → FrN σ τ → MS (its n th sg ne ev k s) τ → (∀ t i, t < s.2.2.1 + k → i < n → τ.1 108 (16 * t + i) = pss n th sg ne ev s (σ.1 108) t i) → WP c_M_run (CTs (d + 5)) K (28, [(0, .ref 98), (1, .int (nI m)), (2, .int (nI k))], []) τ := by
  have h16 := tw.1
  intro c
  induction c with
  | zero =>
    intro k τ hk f ms tp
    have ek : k = m := by omega
    rw [ek] at ms tp ⊢
    refine t_M_run_28 (ifp (Int32.le_refl _) ?_)
    have e0 : τ.1 98 19 = nI (s.2.2.1 + m) := by rw [← its_now (n := n) (ne := ne) (th := th) (sg := sg) (ev := ev) m]; exact ms.2.2.1
    rw [e0]
    exact q τ f ms tp
  | succ c ih =>
    intro k τ hk f ms tp
    have hnk := its_now (n := n) (ne := ne) (th := th) (sg := sg) (ev := ev) (s := s) k
    have e0 : τ.1 98 19 = nI (s.2.2.1 + k) := by rw [← hnk]; exact ms.2.2.1
    refine t_M_run_28 (ifn (nI_ge (by omega) (by omega)) (m_vals tw (tx.frN f) ms (by rw [hnk]; omega) (fun u fv uv => ?_)))
    have key : ∀ (c2 j : Nat) (v : Hp), j + c2 = n → (∀ c, c ≠ 108 → v.1 c = u.1 c) → v.2 = u.2 → (∀ t i, t < s.2.2.1 + k → i < n → v.1 108 (16 * t + i) = pss n th sg ne ev s (σ.1 108) t i) → (∀ i, i < j → v.1 108 (16 * (s.2.2.1 + k) + i) = vls n th sg (its n th sg ne ev k s) i) → WP c_M_run (CTs (d + 5)) K (39, [(0, .ref 98), (1, .int (nI m)), (2, .int (nI k)), (3, .int (nI j))], []) v := by
      intro c2
      induction c2 with
      | zero =>
        intro j v hj v1 v2 vp vn
        have ej : j = n := by omega
        rw [ej] at vn ⊢
        have fn : FrN u v := ⟨fun c h => v1 c (by omega), fun x _ _ => by rw [v1 98 (by decide)], fun c _ _ => by rw [v2], fun x _ _ _ _ _ _ => by rw [v2]⟩
        have txv := ((tx.frN f).frN fv.M.N).frN fn
        refine t_M_run_39 ?_
        rw [txv.1, nI_1]
        refine ifp (Int32.le_refl _) (m_adv tw txv ((fv.ms ms).off (v1 105 (by decide)) (v1 106 (by decide)) (by rw [v1 98 (by decide)]) (by rw [v2])) (its_MW tw mw k) (by rw [hnk]; omega) (fun y fy my => ih (k + 1) y (by omega) (((f.tr fv.M.N).tr fn).tr fy.N) my (fun t i ht hi => ?_)))
        rw [fy.1 108 (by decide) (by decide) (by decide) (by decide) (by decide) (by decide)]
        by_cases e : t = s.2.2.1 + k
        · rw [e, vn i hi]
          unfold pss
          rw [if_neg (by omega), show s.2.2.1 + k - s.2.2.1 = k by omega]
        · exact vp t i (by omega) hi
      | succ c2 ih2 =>
        intro j v hj v1 v2 vp vn
        have v98 : v.1 98 = u.1 98 := v1 98 (by decide)
        have u98 : u.1 98 = τ.1 98 := fv.2 98 (by decide) (by decide) (by decide)
        refine t_M_run_39 ?_
        have e1 : (16 : Int32) * nI (s.2.2.1 + k) + nI j = nI (16 * (s.2.2.1 + k) + j) := by rw [show (16 : Int32) = nI 16 from rfl, pk_mul, nI_add]
        rw [v98, u98, (tx.frN f).1, e0, e1, nI_1 j, nI_clamp (n := 16 * (s.2.2.1 + k) + j) (by omega), nI_clamp (n := j) (by omega), v1 110 (by decide), uv j (by omega)]
        refine ifn (nI_ge (by omega) (by omega)) ⟨vp_in_nI (by omega) (by omega), vp_in_nI (by omega) (by omega), ih2 (j + 1) _ (by omega) (fun c hc => by rw [sI_r, if_neg hc]; exact v1 c hc) v2 (fun t i ht hi => ?_) (fun i hi => ?_)⟩
        · rw [sI_r, if_pos rfl, upd_r, if_neg (by omega)]; exact vp t i ht hi
        · rw [sI_r, if_pos rfl, upd_r]
          by_cases e : i = j
          · rw [if_pos (by omega), e]
          · rw [if_neg (by omega)]; exact vn i (by omega)
    exact key n 0 u (by omega) (fun _ _ => rfl) rfl (fun t i ht hi => by rw [fv.2 108 (by decide) (by decide) (by decide)]; exact tp t i ht hi) (fun i hi => absurd hi (by omega))
theorem op_run : O_run Rel := by
  intro σ a1 h
  obtain ⟨⟨n, now, ne, hc⟩, hr, hkp⟩ := id h
  obtain ⟨a, b, c, ⟨tw, cx, mw, cw, ps, h60⟩, wl⟩ := id hc
  have h16 := tw.1
  have hnow : σ.1 45 0 = nI now := cw.1
  refine e_SS_run (t_SS_run_0 ?_)
  by_cases hin : a1 < 1 ∨ 60 < a1
  · have hm : CTs 60 y_M_run [.ref 98, .int a1] σ (fun r' σ2 => oI (some (.int (-1 : Int32))) = oI r' ∧ Rel σ2) := e_M_run (t_M_run_0 (p_in0 hin (o0 ⟨rfl, h⟩)))
    refine ite2 (fun _ => hm) (fun h1 => ifn ?_ hm)
    rcases hin with z | z
    · exact absurd z h1
    · exact Int32.not_le.mpr z
  have h1 : ¬ a1 < 1 := fun z => hin (Or.inl z)
  have h2 : ¬ 60 < a1 := fun z => hin (Or.inr z)
  obtain ⟨m, hm, rfl⟩ := nI_of2 (M := 60) (n := 60) (by decide) (fun z => h1 (Int32.lt_trans z (by decide))) (Int32.not_lt.mp h2)
  refine ifn h1 (ifp (Int32.not_lt.mp h2) ?_)
  rw [hnow, nI_add]
  by_cases hf : now + m ≤ 60
  · refine ifp (nI_le (b := 60) hf (by omega)) (p_srun (s := wsOf σ now) (m := m) tw cx hc.cs mw hf (fun τ f cs tp => ?_) m 0 σ (by omega) FrW.rf hc.cs (fun t i ht hi => by unfold pss; rw [if_pos (show t < (wsOf σ now).2.2.1 from ht)]))
    have tx := hc.tx.frW f
    refine e_M_run (t_M_run_0 (p_in1 h1 h2 (o1 ?_)))
    rw [f.1 98 (by omega) (by omega) (by omega), b, nI_add]
    refine ifp (nI_le (b := 60) hf (by omega)) (p_mrun (s := wsOf σ now) (m := m) tw tx mw hf (fun u fu mu up => ⟨rfl, ⟨n, now + m, ne, ?_⟩, hr.same (f.R.tr fu.R), hkp.same (f.K.tr fu.K)⟩) m 0 τ (by omega) FrN.rf (hc.ms.frW f) (fun t i ht hi => by unfold pss; rw [if_pos (show t < (wsOf σ now).2.2.1 from ht)]))
    have hnw := its_now (n := n) (ne := ne) (th := σ.1 99) (sg := σ.1 100) (ev := σ.1 107) (s := wsOf σ now) m
    have rc := RCore.of (s := its n (σ.1 99) (σ.1 100) ne (σ.1 107) m (wsOf σ now)) (tx.frN fu) mu (cs.frN (Or.inl rfl) fu) tw ((cx.frW f).frN fu) (its_MW tw mw m) (fun t i ht hi => by
      rw [hnw] at ht
      rw [fu.1 78 (by omega), tp t i ht hi, up t i ht hi]
      unfold pss
      by_cases e : t < (wsOf σ now).2.2.1
      · rw [if_pos e, if_pos e, f.1 108 (by omega) (by omega) (by omega)]
        exact ps t i e hi
      · rw [if_neg e, if_neg e]) (by rw [hnw]; exact hf)
    rw [hnw] at rc
    exact rc
  · refine ifn (fun z => hf ((nI_leI (b := 60) (by omega) (by omega)).mp z)) (e_M_run (t_M_run_0 (p_in1 h1 h2 (o1 ?_))))
    rw [b, nI_add]
    exact ifn (fun z => hf ((nI_leI (b := 60) (by omega) (by omega)).mp z)) ⟨rfl, h⟩
