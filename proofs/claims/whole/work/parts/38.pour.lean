/-! ===== the class's step ===== -/
theorem p_remember {d : Nat} {K : Po} {σ : Hp} {n w now : Nat} {th : Nat → Int32} {N : Nat → Nat} (hw : w = 45 ∨ w = 56) (h16 : n ≤ 16) (hn : σ.1 3 0 = nI n) (hk : ∀ i, i < n → σ.1 4 i = th (20 * i)) (hN : ∀ i, i < n → th (20 * i) = 2 → 1 ≤ N i ∧ N i ≤ 9 ∧ σ.1 6 i = nI (N i)) (hnow : σ.1 w 0 = nI now) (h20 : now < 2 ^ 20)
    (q : ∀ τ : Hp, τ.2 = σ.2 → (∀ c, c ≠ w + 8 → τ.1 c = σ.1 c) → (∀ i, i < n → th (20 * i) = 2 → ∀ y, y < 9 → τ.1 (w + 8) (9 * i + y) = if y = now % N i then σ.1 (w + 7) i else σ.1 (w + 8) (9 * i + y)) → K none τ) : CTs (d + 2) y_Wo_remember [.ref w, .ref 3] σ K := by
  refine e_Wo_remember hw (t_Wo_remember_0 hw ?_)
  have key : ∀ (c k : Nat) (τ : Hp), k + c = n → τ.2 = σ.2 → (∀ c, c ≠ w + 8 → τ.1 c = σ.1 c) → (∀ i, i < n → th (20 * i) = 2 → ∀ y, y < 9 → τ.1 (w + 8) (9 * i + y) = if i < k ∧ y = now % N i then σ.1 (w + 7) i else σ.1 (w + 8) (9 * i + y)) → WP c_Wo_remember (CTs (d + 1)) K (2, [(0, .ref w), (1, .ref 3), (2, .int (nI k))], []) τ := by
    intro c
    induction c with
    | zero =>
      intro k τ hkn t2 t1 tm
      have ek : k = n := by omega
      rw [ek] at tm ⊢
      refine t_Wo_remember_2 hw ?_
      rw [t1 3 (by omega), hn]
      refine ifp (Int32.le_refl _) (q τ t2 t1 (fun i hi e y hy => ?_))
      rw [tm i hi e y hy]
      by_cases h : y = now % N i
      · rw [if_pos h, if_pos ⟨hi, h⟩]
      · rw [if_neg h, if_neg (fun z => h z.2)]
    | succ c ih =>
      intro k τ hkn t2 t1 tm
      have hk' : k < n := by omega
      have hv : vp_in (nI k) 16 := vp_in_nI (by omega) (by omega)
      refine t_Wo_remember_2 hw ?_
      rw [t1 3 (by omega), hn, t1 4 (by omega), nI_1, nI_clamp (by omega), hk k hk']
      refine ifn (nI_ge (by omega) (by omega)) ⟨hv, ite2 (fun e2 => ?_) (fun e2 => ?_)⟩
      · obtain ⟨N1, N9, e6⟩ := hN k hk' e2
        have hm : now % N k < N k := Nat.mod_lt _ (by omega)
        refine p_slot (N := N k) (now := now) hw (by omega) (by rw [t1 6 (by omega)]; exact e6) N1 N9 (by rw [t1 w (by omega)]; exact hnow) h20 ?_
        have hcl2 : (oI (some (.int (nI (9 * k + now % N k))))).toNatClampNeg = 9 * k + now % N k := nI_clamp (by omega)
        refine ⟨hv, vp_in_nI (by omega) (by omega), ?_⟩
        rw [hcl2, t1 (w + 7) (by omega)]
        refine ih (k + 1) _ (by omega) t2 (fun c hc => by rw [sI_r, if_neg hc]; exact t1 c hc) (fun i hi e y hy => ?_)
        rw [sI_r, if_pos rfl, upd_r]
        by_cases ei : i = k
        · subst ei
          by_cases ey : y = now % N i
          · rw [if_pos (by omega), if_pos ⟨by omega, ey⟩]
          · rw [if_neg (by omega), if_neg (fun z => ey z.2), tm i hi e y hy, if_neg (fun z => ey z.2)]
        · rw [if_neg (by omega), tm i hi e y hy]
          by_cases h : i < k ∧ y = now % N i
          · rw [if_pos h, if_pos ⟨by omega, h.2⟩]
          · rw [if_neg h, if_neg (fun z => h ⟨by omega, z.2⟩)]
      · refine ih (k + 1) τ (by omega) t2 t1 (fun i hi e y hy => ?_)
        have ei : i ≠ k := fun z => e2 (by rw [← z]; exact e)
        rw [tm i hi e y hy]
        by_cases h : i < k ∧ y = now % N i
        · rw [if_pos h, if_pos ⟨by omega, h.2⟩]
        · rw [if_neg h, if_neg (fun z => h ⟨by omega, z.2⟩)]
  exact key n 0 σ (by omega) rfl (fun _ _ => rfl) (fun i hi e y hy => by rw [if_neg (fun z => absurd z.1 (by omega))])
/-- one stream pours -/
theorem p_pourOne {d : Nat} {K : Po} {σ : Hp} {n w k : Nat} {th V : Nat → Int32} (hw : w = 45 ∨ w = 56) (h16 : n ≤ 16) (hn : σ.1 3 0 = nI n) (hk : k < n) (e3 : th (20 * k) = 3) (hf : σ.1 7 k = th (20 * k + 4)) (ht : σ.1 8 k = th (20 * k + 5)) (he4 : EndO n th 4) (he5 : EndO n th 5) (hF : σ.1 (w + 6) k = fl1 n th V k)
    (q : ∀ τ : Hp, τ.1 = σ.1 → (∀ c, c ≠ w → c ≠ w + 9 → τ.2 c = σ.2 c) → (∀ x, x ≠ 2 → x ≠ 3 → τ.2 w x = σ.2 w x) → τ.2 w 2 = σ.2 w 2 + caF n th V 4 k → τ.2 w 3 = σ.2 w 3 + caF n th V 5 k → (∀ j, j < n → τ.2 (w + 9) j = σ.2 (w + 9) j + goF n th V j k) → K none τ) : CTs (d + 2) y_Wo_pourOne [.ref w, .ref 3, .int (nI k)] σ K := by
  have hv : vp_in (nI k) 16 := vp_in_nI (by omega) (by omega)
  have hw9 : w + 9 ≠ w := by omega
  have hw9' : w ≠ w + 9 := by omega
  refine e_Wo_pourOne hw (t_Wo_pourOne_0 hw ⟨hv, hv, ?_⟩)
  rw [nI_clamp (by omega), hf, ht]
  have cF : ∀ w, caF n th V w k = if th (20 * k + w) < 0 then (fl1 n th V k).toInt64 else 0 := fun w => by
    unfold caF
    by_cases h : th (20 * k + w) < 0
    · rw [if_pos h, if_pos ⟨e3, h⟩]
    · rw [if_neg h, if_neg (fun z => h z.2)]
  have gF : ∀ j, goF n th V j k = (if th (20 * k + 5) = nI j then (fl1 n th V k).toInt64 else 0) - (if th (20 * k + 4) = nI j then (fl1 n th V k).toInt64 else 0) := fun j => by unfold goF; rw [if_pos e3]
  rcases he4 k hk e3 with e | ⟨j, hj, e, ej⟩
  · rcases he5 k hk e3 with e' | ⟨j', hj', e', ej'⟩
    · rw [e, e'] at gF ⊢
      refine p_has0 (Or.inl rfl) hn (Or.inl (by decide)) (o0 ⟨hv, p_has0 (Or.inl rfl) hn (Or.inl (by decide)) (o0 ⟨hv, ?_⟩)⟩)
      rw [sL_r, hF]
      refine q _ rfl (fun c h1 h2 => by rw [sL_l, if_neg h1, sL_l, if_neg h1]) (fun x h1 h2 => by rw [sL_l, if_pos rfl, updL_r, if_neg h2, sL_l, if_pos rfl, updL_r, if_neg h1]) ?_ ?_ (fun i hi => ?_)
      · rw [cF, e, if_pos (by decide), sL_l, if_pos rfl, updL_r, if_neg (by decide), sL_l, if_pos rfl, pk_uLs]
      · rw [cF, e', if_pos (by decide), sL_l, if_pos rfl, pk_uLs, sL_l, if_pos rfl, updL_r, if_neg (by decide)]
      · rw [gF, if_neg (ne9 (by omega)), sL_l, if_neg hw9, sL_l, if_neg hw9, Int64.sub_zero, Int64.add_zero]
    · rw [e, e'] at gF ⊢
      have hvj : vp_in (nI j') 16 := vp_in_nI (by omega) (by omega)
      refine p_has0 (Or.inl rfl) hn (Or.inl (by decide)) (o0 ⟨hv, p_has1 (Or.inl rfl) hn h16 hj' (o1 ⟨hvj, hv, hvj, ?_⟩)⟩)
      rw [sL_r, hF, nI_clamp (by omega)]
      refine q _ rfl (fun c h1 h2 => by rw [sL_l, if_neg h2, sL_l, if_neg h1]) (fun x h1 h2 => by rw [sL_l, if_neg hw9', sL_l, if_pos rfl, updL_r, if_neg h1]) ?_ ?_ (fun i hi => ?_)
      · rw [cF, e, if_pos (by decide), sL_l, if_neg hw9', sL_l, if_pos rfl, pk_uLs]
      · rw [cF, e', if_neg (nI_pos (by omega)), sL_l, if_neg hw9', sL_l, if_pos rfl, updL_r, if_neg (by decide), Int64.add_zero]
      · rw [gF, if_neg (c := (-9 : Int32) = nI i) (ne9 (by omega)), sL_l, if_pos rfl, updL_r, sL_l, if_neg hw9]
        by_cases ei : i = j'
        · rw [if_pos ei, ei, if_pos rfl, Int64.sub_zero]
        · rw [if_neg ei, if_neg (fun z => ei ((nI_eq (by omega) (by omega)).mp z).symm), Int64.sub_zero, Int64.add_zero]
  · have hvj : vp_in (nI j) 16 := vp_in_nI (by omega) (by omega)
    rcases he5 k hk e3 with e' | ⟨j', hj', e', ej'⟩
    · rw [e, e'] at gF ⊢
      refine p_has1 (Or.inl rfl) hn h16 hj (o1 ⟨hvj, hv, hvj, p_has0 (Or.inl rfl) hn (Or.inl (by decide)) (o0 ⟨hv, ?_⟩)⟩)
      rw [sL_r, hF, nI_clamp (by omega)]
      refine q _ rfl (fun c h1 h2 => by rw [sL_l, if_neg h1, sL_l, if_neg h2]) (fun x h1 h2 => by rw [sL_l, if_pos rfl, updL_r, if_neg h2, sL_l, if_neg hw9']) ?_ ?_ (fun i hi => ?_)
      · rw [cF, e, if_neg (nI_pos (by omega)), sL_l, if_pos rfl, updL_r, if_neg (by decide), sL_l, if_neg hw9', Int64.add_zero]
      · rw [cF, e', if_pos (by decide), sL_l, if_pos rfl, pk_uLs, sL_l, if_neg hw9']
      · rw [gF, if_neg (c := (-9 : Int32) = nI i) (ne9 (by omega)), sL_l, if_neg hw9, sL_l, if_pos rfl, updL_r]
        by_cases ei : i = j
        · rw [if_pos ei, ei, if_pos rfl, ← l_sub, Int64.add_zero]
        · rw [if_neg ei, if_neg (fun z => ei ((nI_eq (by omega) (by omega)).mp z).symm), Int64.sub_zero, Int64.add_zero]
    · rw [e, e'] at gF ⊢
      have hvj' : vp_in (nI j') 16 := vp_in_nI (by omega) (by omega)
      refine p_has1 (Or.inl rfl) hn h16 hj (o1 ⟨hvj, hv, hvj, p_has1 (Or.inl rfl) hn h16 hj' (o1 ⟨hvj', hv, hvj', ?_⟩)⟩)
      rw [sL_r, hF, nI_clamp (by omega), nI_clamp (by omega)]
      refine q _ rfl (fun c h1 h2 => by rw [sL_l, if_neg h2, sL_l, if_neg h2]) (fun x h1 h2 => by rw [sL_l, if_neg hw9', sL_l, if_neg hw9']) ?_ ?_ (fun i hi => ?_)
      · rw [cF, e, if_neg (nI_pos (by omega)), sL_l, if_neg hw9', sL_l, if_neg hw9', Int64.add_zero]
      · rw [cF, e', if_neg (nI_pos (by omega)), sL_l, if_neg hw9', sL_l, if_neg hw9', Int64.add_zero]
      · rw [gF, ← l_sub, sL_l, if_pos rfl, updL_r]
        have s1e : ∀ x, x < 16 → (sL σ (w + 9) j (σ.2 (w + 9) j - (fl1 n th V k).toInt64)).2 (w + 9) x = σ.2 (w + 9) x - (if nI j = nI x then (fl1 n th V k).toInt64 else 0) := fun x hx => by
          rw [sL_l, if_pos rfl, updL_r]
          by_cases exj : x = j
          · rw [if_pos exj, exj, if_pos rfl]
          · rw [if_neg exj, if_neg (fun z => exj ((nI_eq (by omega) (by omega)).mp z).symm), Int64.sub_zero]
        by_cases ei : i = j'
        · rw [if_pos ei, if_pos (show nI j' = nI i by rw [ei]), s1e _ (by omega), ei]
        · rw [if_neg ei, if_neg (fun z => ei ((nI_eq (by omega) (by omega)).mp z).symm), s1e _ (by omega), Int64.add_zero]
set_option maxHeartbeats 1000000 in
theorem p_pour {d : Nat} {K : Po} {σ : Hp} {n w : Nat} {th am V : Nat → Int32} (hw : w = 45 ∨ w = 56) (h16 : n ≤ 16) (hn : σ.1 3 0 = nI n) (hk : ∀ i, i < n → σ.1 4 i = th (20 * i)) (hf : ∀ i, i < n → σ.1 7 i = th (20 * i + 4)) (ht : ∀ i, i < n → σ.1 8 i = th (20 * i + 5)) (he4 : EndO n th 4) (he5 : EndO n th 5) (hF : ∀ i, i < n → th (20 * i) = 3 → σ.1 (w + 6) i = fl1 n th V i) (hA : ∀ i, i < n → th (20 * i) = 1 → σ.1 (w + 4) i = am i)
    (q : ∀ τ : Hp, (∀ c, c ≠ w + 4 → τ.1 c = σ.1 c) → (∀ i, i < n → τ.1 (w + 4) i = if th (20 * i) = 1 then (capL (lev n th am V i)).toInt32 else σ.1 (w + 4) i) → (∀ c, c ≠ w → c ≠ w + 9 → τ.2 c = σ.2 c) → τ.2 w 1 = σ.2 w 1 + sm n (spl n th am V) → τ.2 w 2 = σ.2 w 2 + sm n (caF n th V 4) → τ.2 w 3 = σ.2 w 3 + sm n (caF n th V 5) → K (some (.int (chg n th am V n))) τ) : CTs (d + 3) y_Wo_pour [.ref w, .ref 3] σ K := by
  refine e_Wo_pour hw (t_Wo_pour_0 hw ?_)
  have hw9 : w + 9 ≠ w := by omega
  have hw9' : w ≠ w + 9 := by omega
  have k65 : ∀ (c k : Nat) (τ : Hp), k + c = n → (∀ c, c ≠ w + 4 → τ.1 c = σ.1 c) → (∀ i, i < n → τ.1 (w + 4) i = if i < k ∧ th (20 * i) = 1 then (capL (lev n th am V i)).toInt32 else σ.1 (w + 4) i) → (∀ c, c ≠ w → c ≠ w + 9 → τ.2 c = σ.2 c) → τ.2 w 1 = σ.2 w 1 + sm k (spl n th am V) → τ.2 w 2 = σ.2 w 2 + sm n (caF n th V 4) → τ.2 w 3 = σ.2 w 3 + sm n (caF n th V 5) → (∀ i, k ≤ i → i < n → th (20 * i) = 1 → τ.2 (w + 9) i = lev n th am V i) → WP c_Wo_pour (CTs (d + 2)) K (65, [(0, .ref w), (1, .ref 3), (2, .int (chg n th am V k)), (3, .int (nI k))], []) τ := by
    intro c
    induction c with
    | zero =>
      intro k τ hkn t1 ta t2 t21 t22 t23 tl
      have ek : k = n := by omega
      rw [ek] at ta t21 ⊢
      refine t_Wo_pour_65 hw ?_
      rw [t1 3 (by omega), hn]
      refine ifp (Int32.le_refl _) ⟨chg_b n, q τ t1 (fun i hi => ?_) t2 t21 t22 t23⟩
      rw [ta i hi]
      by_cases h : th (20 * i) = 1
      · rw [if_pos h, if_pos ⟨hi, h⟩]
      · rw [if_neg h, if_neg (fun z => h z.2)]
    | succ c ih =>
      intro k τ hkn t1 ta t2 t21 t22 t23 tl
      have hk' : k < n := by omega
      have hv : vp_in (nI k) 16 := vp_in_nI (by omega) (by omega)
      refine t_Wo_pour_65 hw ?_
      rw [t1 3 (by omega), hn, t1 4 (by omega), nI_1, nI_clamp (by omega), hk k hk']
      refine ifn (nI_ge (by omega) (by omega)) ⟨hv, ite2 (fun e1 => ⟨hv, ?_⟩) (fun e1 => ?_)⟩
      · have el : τ.2 (w + 9) k = lev n th am V k := tl k (Nat.le_refl _) hk' e1
        have eam : τ.1 (w + 4) k = am k := by rw [ta k hk', if_neg (fun z => absurd z.1 (by omega))]; exact hA k hk' e1
        have e9 : (sL (sL τ w 1 (τ.2 w 1 + (lev n th am V k - 999999))) (w + 9) k 999999).2 (w + 9) k = 999999 := by rw [sL_l, if_pos rfl, pk_uLs]
        rw [el, eam, e9]
        have fin : ∀ (v : Int32) (τ' : Hp), v = chg n th am V (k + 1) → τ'.1 = τ.1 → (∀ c, c ≠ w → c ≠ w + 9 → τ'.2 c = τ.2 c) → τ'.2 w 1 = τ.2 w 1 + spl n th am V k → (∀ x, x ≠ 1 → τ'.2 w x = τ.2 w x) → (∀ i, k + 1 ≤ i → τ'.2 (w + 9) i = τ.2 (w + 9) i) → WP c_Wo_pour (CTs (d + 2)) K (65, [(0, .ref w), (1, .ref 3), (2, .int v), (3, .int (nI (k + 1)))], []) (sI τ' (w + 4) k (capL (lev n th am V k)).toInt32) := by
          intro v τ' ev a1 a2 a21 a2x al
          rw [ev]
          refine ih (k + 1) _ (by omega) (fun c hc => by rw [sI_r, if_neg hc, a1]; exact t1 c hc) (fun i hi => ?_) (fun c h1 h2 => (a2 c h1 h2).trans (t2 c h1 h2)) ?_ ((a2x 2 (by decide)).trans t22) ((a2x 3 (by decide)).trans t23) (fun i h1 h2 h3 => (al i h1).trans (tl i (by omega) h2 h3))
          · rw [sI_r, if_pos rfl, upd_r, a1, ta i hi]
            by_cases ei : i = k
            · rw [if_pos ei, ei, if_pos ⟨by omega, e1⟩]
            · rw [if_neg ei]
              by_cases h : i < k ∧ th (20 * i) = 1
              · rw [if_pos h, if_pos ⟨by omega, h.2⟩]
              · rw [if_neg h, if_neg (fun z => h ⟨by omega, z.2⟩)]
          · show τ'.2 w 1 = σ.2 w 1 + (sm k (spl n th am V) + spl n th am V k)
            rw [a21, t21, Int64.add_assoc]
        have chs : chg n th am V (k + 1) = if chg n th am V k = 0 then (if th (20 * k) = 1 ∧ ¬ capL (lev n th am V k) = (am k).toInt64 then 1 else 0) else 1 := rfl
        by_cases hle : lev n th am V k ≤ 999999
        · have ecap : lev n th am V k = capL (lev n th am V k) := by unfold capL; rw [if_neg (Int64.not_lt.mpr hle)]
          have espl : spl n th am V k = 0 := by unfold spl; rw [if_neg (fun z => Int64.not_lt.mpr hle z.2)]
          have fin' : ∀ v, v = chg n th am V (k + 1) → WP c_Wo_pour (CTs (d + 2)) K (65, [(0, .ref w), (1, .ref 3), (2, .int v), (3, .int (nI (k + 1)))], []) (sI τ (w + 4) k (lev n th am V k).toInt32) := fun v ev => by
            have := fin v τ ev rfl (fun _ _ _ => rfl) (by rw [espl, Int64.add_zero]) (fun _ _ => rfl) (fun _ _ => rfl)
            rw [← ecap] at this
            exact this
          refine ifp ((lg_cmp_le _ _).mpr hle) (ite2 (fun c0 => ⟨hv, hv, ite2 (fun ce => ⟨hv, hv, fin' _ ?_⟩) (fun ce => ⟨hv, hv, fin' _ ?_⟩)⟩) (fun c0 => ⟨hv, hv, fin' _ ?_⟩))
          · rw [chs, if_pos c0, if_neg (fun z => z.2 (ecap.symm.trans ((lg_cmp_eq _ _).mp ce)))]
          · rw [chs, if_pos c0, if_pos ⟨e1, fun z => ce ((lg_cmp_eq _ _).mpr (ecap.trans z))⟩]
          · rw [chs, if_neg c0]
        · have hgt := Int64.not_le.mp hle
          have ecap : (999999 : Int64) = capL (lev n th am V k) := by unfold capL; rw [if_pos hgt]
          have espl : spl n th am V k = lev n th am V k - 999999 := by unfold spl; rw [if_pos ⟨e1, hgt⟩]
          have hc : ¬ lg_cmp (lev n th am V k) 999999 ≤ 0 := fun z => hle ((lg_cmp_le _ _).mp z)
          have fin' : ∀ v, v = chg n th am V (k + 1) → WP c_Wo_pour (CTs (d + 2)) K (65, [(0, .ref w), (1, .ref 3), (2, .int v), (3, .int (nI (k + 1)))], []) (sI (sL (sL τ w 1 (τ.2 w 1 + (lev n th am V k - 999999))) (w + 9) k 999999) (w + 4) k (999999 : Int64).toInt32) := fun v ev => by
            have := fin v (sL (sL τ w 1 (τ.2 w 1 + (lev n th am V k - 999999))) (w + 9) k 999999) ev rfl (fun c h1 h2 => by rw [sL_l, if_neg h2, sL_l, if_neg h1]) (by rw [sL_l, if_neg hw9', sL_l, if_pos rfl, pk_uLs, espl]) (fun x hx => by rw [sL_l, if_neg hw9', sL_l, if_pos rfl, updL_r, if_neg hx]) (fun i hi => by rw [sL_l, if_pos rfl, updL_r, if_neg (by omega), sL_l, if_neg hw9])
            rw [← ecap] at this
            exact this
          refine ifn hc ⟨hv, hv, ite2 (fun c0 => ⟨hv, hv, ite2 (fun ce => ⟨hv, hv, fin' _ ?_⟩) (fun ce => ⟨hv, hv, fin' _ ?_⟩)⟩) (fun c0 => ⟨hv, hv, fin' _ ?_⟩)⟩
          · rw [chs, if_pos c0, if_neg (fun z => z.2 (ecap.symm.trans ((lg_cmp_eq _ _).mp ce)))]
          · rw [chs, if_pos c0, if_pos ⟨e1, fun z => ce ((lg_cmp_eq _ _).mpr (ecap.trans z))⟩]
          · rw [chs, if_neg c0]
      · have ech : chg n th am V (k + 1) = chg n th am V k := by
          show (if chg n th am V k = 0 then _ else _) = _
          rcases chg_b (n := n) (th := th) (am := am) (V := V) k with z | z
          · rw [if_pos z, if_neg (fun y => e1 y.1), z]
          · rw [if_neg (by rw [z]; decide), z]
        have := ih (k + 1) τ (by omega) t1 (fun i hi => by
          rw [ta i hi]
          by_cases h : i < k ∧ th (20 * i) = 1
          · rw [if_pos h, if_pos ⟨by omega, h.2⟩]
          · rw [if_neg h, if_neg (fun z => h ⟨Nat.lt_of_le_of_ne (Nat.lt_succ_iff.mp z.1) (fun y => e1 (by rw [← y]; exact z.2)), z.2⟩)]) t2 (by
          show _ = σ.2 w 1 + (sm k (spl n th am V) + spl n th am V k)
          rw [show spl n th am V k = 0 by unfold spl; rw [if_neg (fun z => e1 z.1)], Int64.add_zero]; exact t21) t22 t23 (fun i h1 h2 h3 => tl i (by omega) h2 h3)
        rw [ech] at this
        exact this
  have k31 : ∀ (c k : Nat) (τ : Hp), k + c = n → τ.1 = σ.1 → (∀ c, c ≠ w → c ≠ w + 9 → τ.2 c = σ.2 c) → τ.2 w 1 = σ.2 w 1 → τ.2 w 2 = σ.2 w 2 + sm k (caF n th V 4) → τ.2 w 3 = σ.2 w 3 + sm k (caF n th V 5) → (∀ i, i < n → τ.2 (w + 9) i = (σ.1 (w + 4) i).toInt64 + sm k (goF n th V i)) → WP c_Wo_pour (CTs (d + 2)) K (31, [(0, .ref w), (1, .ref 3), (2, .int (nI k))], []) τ := by
    intro c
    induction c with
    | zero =>
      intro k τ hkn t1 t2 t21 t22 t23 tl
      have ek : k = n := by omega
      rw [ek] at t22 t23 tl ⊢
      refine t_Wo_pour_31 hw ?_
      rw [t1, hn]
      refine ifp (Int32.le_refl _) (k65 n 0 τ (by omega) (fun _ _ => by rw [t1]) (fun i hi => by rw [t1, if_neg (fun z => absurd z.1 (by omega))]) t2 (t21.trans (Int64.add_zero _).symm) t22 t23 (fun i _ hi e1 => ?_))
      rw [tl i hi, hA i hi e1]; rfl
    | succ c ih =>
      intro k τ hkn t1 t2 t21 t22 t23 tl
      have hk' : k < n := by omega
      have hv : vp_in (nI k) 16 := vp_in_nI (by omega) (by omega)
      refine t_Wo_pour_31 hw ?_
      rw [t1, hn, nI_1, nI_clamp (by omega), hk k hk']
      refine ifn (nI_ge (by omega) (by omega)) ⟨hv, ite2 (fun e3 => ?_) (fun e3 => ?_)⟩
      · refine p_pourOne (n := n) (th := th) (V := V) hw h16 (by rw [t1]; exact hn) hk' e3 (by rw [t1]; exact hf k hk') (by rw [t1]; exact ht k hk') he4 he5 (by rw [t1]; exact hF k hk' e3) (fun u u1 u2 ux u22 u23 ug => ih (k + 1) u (by omega) (u1.trans t1) (fun c h1 h2 => (u2 c h1 h2).trans (t2 c h1 h2)) ((ux 1 (by decide) (by decide)).trans t21) ?_ ?_ (fun i hi => ?_))
        · rw [u22, t22, Int64.add_assoc]; rfl
        · rw [u23, t23, Int64.add_assoc]; rfl
        · rw [ug i hi, tl i hi, Int64.add_assoc]; rfl
      · refine ih (k + 1) τ (by omega) t1 t2 t21 ?_ ?_ (fun i hi => ?_)
        · show _ = σ.2 w 2 + (sm k (caF n th V 4) + caF n th V 4 k)
          rw [show caF n th V 4 k = 0 by unfold caF; rw [if_neg (fun z => e3 z.1)], Int64.add_zero]; exact t22
        · show _ = σ.2 w 3 + (sm k (caF n th V 5) + caF n th V 5 k)
          rw [show caF n th V 5 k = 0 by unfold caF; rw [if_neg (fun z => e3 z.1)], Int64.add_zero]; exact t23
        · show _ = _ + (sm k (goF n th V i) + goF n th V i k)
          rw [show goF n th V i k = 0 by unfold goF; rw [if_neg e3], Int64.add_zero]; exact tl i hi
  have k2 : ∀ (c k : Nat) (τ : Hp), k + c = n → τ.1 = σ.1 → (∀ c, c ≠ w + 9 → τ.2 c = σ.2 c) → (∀ i, i < k → τ.2 (w + 9) i = (σ.1 (w + 4) i).toInt64) → WP c_Wo_pour (CTs (d + 2)) K (2, [(0, .ref w), (1, .ref 3), (2, .int (nI k))], []) τ := by
    intro c
    induction c with
    | zero =>
      intro k τ hkn t1 t2 tl
      have ek : k = n := by omega
      rw [ek] at tl ⊢
      refine t_Wo_pour_2 hw ?_
      rw [t1, hn]
      exact ifp (Int32.le_refl _) (k31 n 0 τ (by omega) t1 (fun c _ h => t2 c h) (by rw [t2 w hw9']) (by rw [t2 w hw9']; exact (Int64.add_zero _).symm) (by rw [t2 w hw9']; exact (Int64.add_zero _).symm) (fun i hi => by rw [tl i hi]; exact (Int64.add_zero _).symm))
    | succ c ih =>
      intro k τ hkn t1 t2 tl
      have hv : vp_in (nI k) 16 := vp_in_nI (by omega) (by omega)
      refine t_Wo_pour_2 hw ?_
      rw [t1, hn, nI_1, nI_clamp (by omega)]
      refine ifn (nI_ge (by omega) (by omega)) ⟨hv, hv, ih (k + 1) _ (by omega) t1 (fun c hc => by rw [sL_l, if_neg hc]; exact t2 c hc) (fun i hi => ?_)⟩
      rw [sL_l, if_pos rfl, updL_r]
      by_cases ei : i = k
      · rw [if_pos ei, ei]
      · rw [if_neg ei]; exact tl i (by omega)
  exact k2 n 0 σ (by omega) rfl (fun _ _ => rfl) (fun i hi => absurd hi (by omega))
