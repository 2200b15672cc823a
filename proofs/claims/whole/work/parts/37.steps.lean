/-! ===== the model's step ===== -/
theorem p_flowOf {d : Nat} {K : Po} {σ : Hp} {n : Nat} {th V : Nat → Int32} (h16 : n ≤ 16) (hn : σ.1 98 0 = nI n) (ht : σ.1 99 = th) (hV : ∀ j, j < n → σ.1 110 j = V j) (vn : VN n th V) (e4 : EndO n th 4) {i : Nat} (hi : i < n) (e3 : th (20 * i) = 3) (q : K (some (.int (fl1 n th V i))) σ) : CTs (d + 2) y_M_flowOf [.ref 98, .int (nI i)] σ K := by
  refine e_M_flowOf (t_M_flowOf_0 (p_of (w := 4) (by omega) (by omega) ?_))
  rw [ht]
  unfold fl1 at q
  rcases e4 i hi e3 with e | ⟨j, hj, e, ej⟩
  · rw [e] at q ⊢
    rw [if_pos (by decide)] at q
    refine ifn (by decide) ⟨vp_in_nI (by omega) (by omega), ?_⟩
    rw [nI_clamp (by omega), hV i hi]
    exact q
  · rw [e] at q ⊢
    rw [if_neg (nI_pos (by omega)), sN_nI (by omega)] at q
    refine ifp (nI_pos' (by omega)) ?_
    have key : ∀ c k, k + c = n → WP c_M_flowOf (CTs (d + 1)) K (23, [(0, .ref 98), (1, .int (nI i)), (2, .int (nI j)), (3, .long (allS k th V (nI j))), (5, .int (nI k))], []) σ := by
      intro c
      induction c with
      | zero =>
        intro k hk
        have ek : k = n := by omega
        rw [ek]
        refine t_M_flowOf_23 ?_
        obtain ⟨a, ha, eja⟩ := vn.2 j hj ej
        have hvi : vp_in (nI i) 16 := vp_in_nI (by omega) (by omega)
        have hvj : vp_in (nI j) 16 := vp_in_nI (by omega) (by omega)
        rw [hn, nI_clamp (by omega), nI_clamp (by omega), hV i hi, hV j hj]
        refine ifp (Int32.le_refl _) ⟨hvj, ite2 (fun hc => ⟨hvi, ?_⟩) (fun hc => ⟨hvi, hvj, ?_, ?_⟩)⟩
        · rw [if_neg (Int64.not_lt.mpr ((lg_cmp_le _ _).mp hc))] at q; exact q
        · have hlt : (V j).toInt64 < allS n th V (nI j) := Int64.not_le.mp (fun z => hc ((lg_cmp_le _ _).mpr z))
          intro z
          rw [z, eja, nI_l (by omega)] at hlt
          exact absurd ((lN_lt (b := 0) (by omega) (by omega)).mp hlt) (by omega)
        · have hlt : (V j).toInt64 < allS n th V (nI j) := Int64.not_le.mp (fun z => hc ((lg_cmp_le _ _).mpr z))
          rw [if_pos hlt] at q; exact q
      | succ c ih =>
        intro k hk
        have hk' : k < n := by omega
        refine t_M_flowOf_23 ?_
        rw [hn, nI_1, nI_clamp (n := k) (by omega)]
        have up : allS (k + 1) th V (nI j) = allS k th V (nI j) + (if th (20 * k) = 3 ∧ th (20 * k + 4) = nI j then (V k).toInt64 else 0) := rfl
        refine ifn (nI_ge (by omega) (by omega)) (p_of (w := 0) (by omega) (by omega) ?_)
        rw [ht]
        refine ite2 (fun h3 => p_of (w := 4) (by omega) (by omega) ?_) (fun h3 => ?_)
        · rw [ht]
          refine ite2 (fun h4 => ⟨vp_in_nI (by omega) (by omega), ?_⟩) (fun h4 => ?_)
          · have := ih (k + 1) (by omega)
            rw [up, if_pos ⟨h3, h4⟩, ← hV k hk'] at this
            exact this
          · have := ih (k + 1) (by omega)
            rw [up, if_neg (fun z => h4 z.2)] at this
            exact this
        · have := ih (k + 1) (by omega)
          rw [up, if_neg (fun z => h3 z.1)] at this
          exact this
    exact key n 0 (by omega)
def goF (n : Nat) (th V : Nat → Int32) (s k : Nat) : Int64 := if th (20 * k) = 3 then (if th (20 * k + 5) = nI s then (fl1 n th V k).toInt64 else 0) - (if th (20 * k + 4) = nI s then (fl1 n th V k).toInt64 else 0) else 0
theorem goes_F {n : Nat} {th V : Nat → Int32} {s : Nat} : goes n th V s = sm n (goF n th V s) := rfl
def MStep (σ τ : Hp) (n now ne : Nat) : Prop :=
  (∀ c, c ≠ 98 → c ≠ 105 → c ≠ 106 → c ≠ 109 → c ≠ 110 → c ≠ 111 → τ.1 c = σ.1 c) ∧ (∀ x, x ≠ 19 → τ.1 98 x = σ.1 98 x) ∧ τ.1 98 19 = nI (now + 1) ∧
  τ.1 105 = amS n (σ.1 99) (σ.1 100) (σ.1 105) (σ.1 106) now ne (σ.1 107) ∧ τ.1 106 = memS n (σ.1 99) (σ.1 100) (σ.1 105) (σ.1 106) now ∧
  (∀ c, c ≠ 98 → c ≠ 112 → τ.2 c = σ.2 c) ∧ (∀ x, x ≠ 22 → x ≠ 23 → x ≠ 24 → τ.2 98 x = σ.2 98 x) ∧
  τ.2 98 22 = spS n (σ.1 99) (σ.1 100) (σ.1 105) (σ.1 106) now (σ.2 98 22) ∧ τ.2 98 23 = caS n (σ.1 99) (σ.1 100) (σ.1 105) (σ.1 106) now 4 (σ.2 98 23) ∧ τ.2 98 24 = caS n (σ.1 99) (σ.1 100) (σ.1 105) (σ.1 106) now 5 (σ.2 98 24)
theorem pouK_0 {n : Nat} {th am V : Nat → Int32} : pouK n th am V 0 = am := by
  funext i
  unfold pouK
  rw [if_neg (fun h => absurd h.1 (by omega))]
theorem pouK_s {n : Nat} {th am V : Nat → Int32} {k : Nat} (h : th (20 * k) = 1) : upd (pouK n th am V k) k (capL (lev n th am V k)).toInt32 = pouK n th am V (k + 1) := by
  funext i
  rw [upd_r]
  unfold pouK
  by_cases e : i = k
  · rw [if_pos e, e, if_pos ⟨by omega, h⟩]
  · rw [if_neg e]
    by_cases h2 : i < k ∧ th (20 * i) = 1
    · rw [if_pos h2, if_pos ⟨by omega, h2.2⟩]
    · rw [if_neg h2, if_neg (fun z => h2 ⟨by omega, z.2⟩)]
theorem pouK_n {n : Nat} {th am V : Nat → Int32} {k : Nat} (h : ¬ th (20 * k) = 1) : pouK n th am V k = pouK n th am V (k + 1) := by
  funext i
  unfold pouK
  by_cases h2 : i < k ∧ th (20 * i) = 1
  · rw [if_pos h2, if_pos ⟨by omega, h2.2⟩]
  · rw [if_neg h2, if_neg (fun z => h2 ⟨Nat.lt_of_le_of_ne (Nat.lt_succ_iff.mp z.1) (fun e => h (by rw [← e]; exact z.2)), z.2⟩)]
theorem pouK_k {n : Nat} {th am V : Nat → Int32} {k : Nat} : pouK n th am V k k = am k := by
  unfold pouK
  rw [if_neg (fun h => absurd h.1 (by omega))]
theorem nIs3 (e : Nat) : (3 : Int32) * nI e = nI (3 * e) ∧ nI (3 * e) + 1 = nI (3 * e + 1) ∧ nI (3 * e) + 2 = nI (3 * e + 2) := ⟨by rw [show (3 : Int32) = nI 3 from rfl, pk_mul], nI_add (3 * e) 1, nI_add (3 * e) 2⟩
set_option maxHeartbeats 2000000 in
theorem p_steps {d : Nat} {K : Po} {σ : Hp} {n now ne : Nat} (hn : σ.1 98 0 = nI n) (hnow : σ.1 98 19 = nI now) (hne : σ.1 98 25 = nI ne) (h20 : now < 2 ^ 20) (tw : TW n (σ.1 99) (σ.1 100)) (mw : MW n (σ.1 99) (σ.1 105) ne (σ.1 107))
    (q : ∀ τ : Hp, MStep σ τ n now ne → K (some (.int (chS n (σ.1 99) (σ.1 100) (σ.1 105) (σ.1 106) now))) τ) : CTs (d + 5) y_M_steps [.ref 98] σ K := by
  have h16 := tw.1
  have hne6 := mw.2.1
  have vn := vto_VN (now := now) (mem := σ.1 106) tw mw.1
  refine e_M_steps (t_M_steps_0 (p_findValues hn hnow h20 tw (fun σ1 s2 s1 sv sf => ?_)))
  unfold MStep amS memS spS caS chS at q
  generalize vto (σ.1 99) (σ.1 100) (σ.1 105) (σ.1 106) now n = V at q vn sv sf
  have s98 : σ1.1 98 = σ.1 98 := s1 98 (by decide) (by decide) (by decide)
  have s99 : σ1.1 99 = σ.1 99 := s1 99 (by decide) (by decide) (by decide)
  generalize hth : σ.1 99 = th at q vn sf s99 tw mw
  generalize hsg : σ.1 100 = sg at q sf tw
  have k294 : ∀ (σB : Hp), (∀ c, c ≠ 98 → c ≠ 105 → c ≠ 106 → c ≠ 109 → c ≠ 110 → c ≠ 111 → σB.1 c = σ.1 c) → (∀ x, x ≠ 19 → σB.1 98 x = σ.1 98 x) → σB.1 98 19 = nI (now + 1) → σB.1 106 = mst th sg V now (σ.1 106) n → (∀ c, c ≠ 98 → c ≠ 112 → σB.2 c = σ.2 c) → (∀ x, x ≠ 22 → x ≠ 23 → x ≠ 24 → σB.2 98 x = σ.2 98 x) → σB.2 98 22 = σ.2 98 22 + sm n (spl n th (σ.1 105) V) → σB.2 98 23 = σ.2 98 23 + sm n (caF n th V 4) → σB.2 98 24 = σ.2 98 24 + sm n (caF n th V 5) →
      ∀ (c e : Nat) (τ : Hp), e + c = ne → (∀ c, c ≠ 105 → τ.1 c = σB.1 c) → τ.2 = σB.2 → τ.1 105 = evIn (σ.1 107) (now + 1) e (pouK n th (σ.1 105) V n) → WP c_M_steps (CTs (d + 4)) K (294, [(0, .ref 98), (1, .int (chg n th (σ.1 105) V n)), (2, .int (nI e))], []) τ := by
    intro σB b1 b2 b3 b4 b5 b6 b7 b8 b9 c
    induction c with
    | zero =>
      intro e τ he t1 t2 ta
      have ee : e = ne := by omega
      rw [ee] at ta ⊢
      refine t_M_steps_294 ?_
      rw [t1 98 (by decide), b2 25 (by decide), hne]
      refine ifp (Int32.le_refl _) ⟨chg_b n, q τ ⟨fun c h1 h2 h3 h4 h5 h6 => (t1 c h2).trans (b1 c h1 h2 h3 h4 h5 h6), fun x hx => by rw [t1 98 (by decide)]; exact b2 x hx, by rw [t1 98 (by decide)]; exact b3, ta, by rw [t1 106 (by decide)]; exact b4, fun c h1 h2 => by rw [t2]; exact b5 c h1 h2, fun x h1 h2 h3 => by rw [t2]; exact b6 x h1 h2 h3, by rw [t2]; exact b7, by rw [t2]; exact b8, by rw [t2]; exact b9⟩⟩
    | succ c ih =>
      intro e τ he t1 t2 ta
      refine t_M_steps_294 ?_
      obtain ⟨i3, i31, i32⟩ := nIs3 e
      have e6 : e < 6 := by have := mw.2.1; omega
      obtain ⟨j, hj, ej, ek⟩ := mw.2.2 e (by omega)
      rw [t1 98 (by decide), b2 25 (by decide), hne, i3, i31, i32, nI_clamp (by omega), nI_clamp (by omega), nI_clamp (by omega), t1 107 (by decide), b1 107 (by decide) (by decide) (by decide) (by decide) (by decide) (by decide), b3, nI_1, ej, nI_clamp (by omega)]
      refine ifn (nI_ge (by omega) (by omega)) ⟨vp_in_nI (by omega) (by omega), ite2 (fun h => ⟨vp_in_nI (by omega) (by omega), vp_in_nI (by omega) (by omega), vp_in_nI (by omega) (by omega), ?_⟩) (fun h => ?_)⟩
      · refine ih (e + 1) _ (by omega) (fun c hc => by rw [sI_r, if_neg hc]; exact t1 c hc) t2 ?_
        rw [sI_r, if_pos rfl, ta]
        show _ = (if σ.1 107 (3 * e) = nI (now + 1) then upd (evIn (σ.1 107) (now + 1) e (pouK n th (σ.1 105) V n)) (sN (σ.1 107 (3 * e + 1))) (σ.1 107 (3 * e + 2)) else _)
        rw [if_pos h, ej, sN_nI (by omega)]
      · refine ih (e + 1) τ (by omega) t1 t2 ?_
        rw [ta]
        show _ = (if σ.1 107 (3 * e) = nI (now + 1) then upd (evIn (σ.1 107) (now + 1) e (pouK n th (σ.1 105) V n)) (sN (σ.1 107 (3 * e + 1))) (σ.1 107 (3 * e + 2)) else _)
        rw [if_neg h]
  have k171 : ∀ (σA : Hp), (∀ c, c ≠ 106 → c ≠ 109 → c ≠ 110 → c ≠ 111 → σA.1 c = σ.1 c) → σA.1 106 = mst th sg V now (σ.1 106) n → (∀ c, c ≠ 98 → c ≠ 112 → σA.2 c = σ.2 c) → (∀ x, x ≠ 23 → x ≠ 24 → σA.2 98 x = σ.2 98 x) → σA.2 98 23 = σ.2 98 23 + sm n (caF n th V 4) → σA.2 98 24 = σ.2 98 24 + sm n (caF n th V 5) → (∀ j, j < n → σA.2 112 j = goes n th V j) →
      ∀ (c k : Nat) (τ : Hp), k + c = n → (∀ c, c ≠ 105 → τ.1 c = σA.1 c) → τ.1 105 = pouK n th (σ.1 105) V k → (∀ c, c ≠ 98 → τ.2 c = σA.2 c) → (∀ x, x ≠ 22 → τ.2 98 x = σA.2 98 x) → τ.2 98 22 = σ.2 98 22 + sm k (spl n th (σ.1 105) V) → WP c_M_steps (CTs (d + 4)) K (171, [(0, .ref 98), (1, .int (chg n th (σ.1 105) V k)), (2, .int (nI k))], []) τ := by
    intro σA b1 b2 b3 b4 b5 b6 b7 c
    induction c with
    | zero =>
      intro k τ hk t1 ta t2 t8 t22
      have ek : k = n := by omega
      rw [ek] at ta t22 ⊢
      refine t_M_steps_171 ?_
      rw [t1 98 (by decide), b1 98 (by decide) (by decide) (by decide) (by decide), hn, hnow, nI_1]
      refine ifp (Int32.le_refl _) (k294 (sI τ 98 19 (nI (now + 1))) (fun c h1 h2 h3 h4 h5 h6 => by rw [sI_r, if_neg h1, t1 c h2]; exact b1 c h3 h4 h5 h6) (fun x hx => by rw [sI_r, if_pos rfl, upd_r, if_neg hx, t1 98 (by decide), b1 98 (by decide) (by decide) (by decide) (by decide)]) (by rw [sI_r, if_pos rfl, pk_us]) (by rw [sI_r, if_neg (by decide), t1 106 (by decide)]; exact b2) (fun c h1 h2 => (t2 c h1).trans (b3 c h1 h2)) (fun x h1 h2 h3 => (t8 x h1).trans (b4 x h2 h3)) t22 ((t8 23 (by decide)).trans b5) ((t8 24 (by decide)).trans b6) ne 0 _ (by omega) (fun _ _ => rfl) rfl (by rw [sI_r, if_neg (by decide)]; exact ta))
    | succ c ih =>
      intro k τ hk t1 ta t2 t8 t22
      have hk' : k < n := by omega
      have hv : vp_in (nI k) 16 := vp_in_nI (by omega) (by omega)
      refine t_M_steps_171 ?_
      rw [t1 98 (by decide), b1 98 (by decide) (by decide) (by decide) (by decide), hn, nI_1, nI_clamp (by omega)]
      refine ifn (nI_ge (by omega) (by omega)) (p_of (w := 0) (by omega) (by omega) ?_)
      have t99 : τ.1 99 = th := by rw [t1 99 (by decide), b1 99 (by decide) (by decide) (by decide) (by decide)]; exact hth
      have eam : τ.1 105 k = σ.1 105 k := by rw [ta]; exact pouK_k
      have elev : (σ.1 105 k).toInt64 + τ.2 112 k = lev n th (σ.1 105) V k := by unfold lev; rw [t2 112 (by decide), b7 k hk']
      rw [t99, eam, elev]
      refine ite2 (fun e1 => ⟨hv, hv, ?_⟩) (fun e1 => ?_)
      · have fin : ∀ (v : Int32) (s x : Int64), v = chg n th (σ.1 105) V (k + 1) → s = spl n th (σ.1 105) V k → x = capL (lev n th (σ.1 105) V k) → WP c_M_steps (CTs (d + 4)) K (171, [(0, .ref 98), (1, .int v), (2, .int (nI (k + 1)))], []) (sI (sL τ 98 22 (τ.2 98 22 + s)) 105 k x.toInt32) := by
          intro v s x ev es ex
          rw [ev]
          refine ih (k + 1) _ (by omega) (fun c hc => by rw [sI_r, if_neg hc]; exact t1 c hc) ?_ (fun c hc => by rw [sI_l, sL_l, if_neg hc]; exact t2 c hc) (fun x hx => by rw [sI_l, sL_l, if_pos rfl, updL_r, if_neg hx]; exact t8 x hx) ?_
          · rw [sI_r, if_pos rfl, sL_r, ta, ex]; exact pouK_s e1
          · rw [sI_l, sL_l, if_pos rfl, pk_uLs, t22, es, Int64.add_assoc]; rfl
        have chs : chg n th (σ.1 105) V (k + 1) = if chg n th (σ.1 105) V k = 0 then (if th (20 * k) = 1 ∧ ¬ capL (lev n th (σ.1 105) V k) = (σ.1 105 k).toInt64 then 1 else 0) else 1 := rfl
        by_cases hle : lev n th (σ.1 105) V k ≤ 999999
        · have ecap : lev n th (σ.1 105) V k = capL (lev n th (σ.1 105) V k) := by unfold capL; rw [if_neg (Int64.not_lt.mpr hle)]
          have espl : (0 : Int64) = spl n th (σ.1 105) V k := by unfold spl; rw [if_neg (fun z => Int64.not_lt.mpr hle z.2)]
          refine ifp ((lg_cmp_le _ _).mpr hle) (ifp ((lg_cmp_le _ _).mpr hle) (ite2 (fun c0 => ⟨hv, ite2 (fun ce => ⟨hv, fin _ _ _ ?_ espl ecap⟩) (fun ce => ⟨hv, fin _ _ _ ?_ espl ecap⟩)⟩) (fun c0 => ⟨hv, fin _ _ _ ?_ espl ecap⟩)))
          · rw [chs, if_pos c0, if_neg (fun z => z.2 (ecap.symm.trans ((lg_cmp_eq _ _).mp ce)))]
          · rw [chs, if_pos c0, if_pos ⟨e1, fun z => ce ((lg_cmp_eq _ _).mpr (ecap.trans z))⟩]
          · rw [chs, if_neg c0]
        · have hgt := Int64.not_le.mp hle
          have ecap : (999999 : Int64) = capL (lev n th (σ.1 105) V k) := by unfold capL; rw [if_pos hgt]
          have espl : lev n th (σ.1 105) V k - 999999 = spl n th (σ.1 105) V k := by unfold spl; rw [if_pos ⟨e1, hgt⟩]
          have hc : ¬ lg_cmp (lev n th (σ.1 105) V k) 999999 ≤ 0 := fun z => hle ((lg_cmp_le _ _).mp z)
          refine ifn hc (ifn hc (ite2 (fun c0 => ⟨hv, ite2 (fun ce => ⟨hv, fin _ _ _ ?_ espl ecap⟩) (fun ce => ⟨hv, fin _ _ _ ?_ espl ecap⟩)⟩) (fun c0 => ⟨hv, fin _ _ _ ?_ espl ecap⟩)))
          · rw [chs, if_pos c0, if_neg (fun z => z.2 (ecap.symm.trans ((lg_cmp_eq _ _).mp ce)))]
          · rw [chs, if_pos c0, if_pos ⟨e1, fun z => ce ((lg_cmp_eq _ _).mpr (ecap.trans z))⟩]
          · rw [chs, if_neg c0]
      · have ech : chg n th (σ.1 105) V (k + 1) = chg n th (σ.1 105) V k := by
          show (if chg n th (σ.1 105) V k = 0 then _ else _) = _
          rcases chg_b (n := n) (th := th) (am := σ.1 105) (V := V) k with z | z
          · rw [if_pos z, if_neg (fun y => e1 y.1), z]
          · rw [if_neg (by rw [z]; decide), z]
        have := ih (k + 1) τ (by omega) t1 (by rw [ta]; exact pouK_n e1) t2 t8 (by
          show _ = σ.2 98 22 + (sm k (spl n th (σ.1 105) V) + spl n th (σ.1 105) V k)
          rw [show spl n th (σ.1 105) V k = 0 by unfold spl; rw [if_neg (fun z => e1 z.1)], Int64.add_zero]; exact t22)
        rw [ech] at this
        exact this
  have k29 : ∀ (c k : Nat) (τ : Hp), k + c = n → (∀ c, c ≠ 106 → τ.1 c = σ1.1 c) → τ.1 106 = mst th sg V now (σ.1 106) k → (∀ c, c ≠ 98 → c ≠ 112 → τ.2 c = σ.2 c) → (∀ x, x ≠ 23 → x ≠ 24 → τ.2 98 x = σ.2 98 x) → τ.2 98 23 = σ.2 98 23 + sm k (caF n th V 4) → τ.2 98 24 = σ.2 98 24 + sm k (caF n th V 5) → (∀ j, j < n → τ.2 112 j = sm k (goF n th V j)) → WP c_M_steps (CTs (d + 4)) K (29, [(0, .ref 98), (1, .int (nI k))], []) τ := by
    intro c
    induction c with
    | zero =>
      intro k τ hk t1 tm t2 t8 t23 t24 tg
      have ek : k = n := by omega
      rw [ek] at tm t23 t24 tg ⊢
      refine t_M_steps_29 ?_
      rw [t1 98 (by decide), s98, hn]
      refine ifp (Int32.le_refl _) (k171 τ (fun c h1 h2 h3 h4 => (t1 c h1).trans (s1 c h2 h3 h4)) tm t2 t8 t23 t24 tg n 0 τ (by omega) (fun _ _ => rfl) ?_ (fun _ _ => rfl) (fun _ _ => rfl) ?_)
      · rw [t1 105 (by decide), s1 105 (by decide) (by decide) (by decide), pouK_0]
      · rw [t8 22 (by decide) (by decide)]; exact (Int64.add_zero _).symm
    | succ c ih =>
      intro k τ hk t1 tm t2 t8 t23 t24 tg
      have hk' : k < n := by omega
      have hv : vp_in (nI k) 16 := vp_in_nI (by omega) (by omega)
      have t98 : τ.1 98 = σ.1 98 := (t1 98 (by decide)).trans s98
      have t99 : τ.1 99 = th := (t1 99 (by decide)).trans s99
      have fin : ∀ τ' : Hp, τ'.1 = τ.1 → ¬ th (20 * k) = 2 → (∀ c, c ≠ 98 → c ≠ 112 → τ'.2 c = τ.2 c) → (∀ x, x ≠ 23 → x ≠ 24 → τ'.2 98 x = τ.2 98 x) → τ'.2 98 23 = τ.2 98 23 + caF n th V 4 k → τ'.2 98 24 = τ.2 98 24 + caF n th V 5 k → (∀ j, j < n → τ'.2 112 j = τ.2 112 j + goF n th V j k) → WP c_M_steps (CTs (d + 4)) K (29, [(0, .ref 98), (1, .int (nI (k + 1)))], []) τ' := by
        intro τ' a1 n2 a2 a8 a23 a24 ag
        refine ih (k + 1) τ' (by omega) (fun c hc => by rw [a1]; exact t1 c hc) ?_ (fun c h1 h2 => (a2 c h1 h2).trans (t2 c h1 h2)) (fun x h1 h2 => (a8 x h1 h2).trans (t8 x h1 h2)) (by rw [a23, t23, Int64.add_assoc]; rfl) (by rw [a24, t24, Int64.add_assoc]; rfl) (fun j hj => by rw [ag j hj, tg j hj]; rfl)
        rw [a1, tm]
        show _ = (if th (20 * k) = 2 then _ else _)
        rw [if_neg n2]
      refine t_M_steps_29 ?_
      rw [t98, hn, nI_1, nI_clamp (by omega)]
      refine ifn (nI_ge (by omega) (by omega)) (p_of (w := 0) (by omega) (by omega) ?_)
      rw [t99, t98, hnow]
      have e10 : nI now - nI now / 10 * 10 = nI (now % 10) := pk_rem (d := 10) (by omega) (by omega) (by omega)
      have e10' : (10 : Int32) * nI k + nI (now % 10) = nI (10 * k + now % 10) := by rw [show (10 : Int32) = nI 10 from rfl, pk_mul, nI_add]
      rw [e10, e10', nI_clamp (by omega)]
      refine ite2 (fun e2 => ⟨by decide, hv, vp_in_nI (by omega) (by omega), p_of (w := 0) (by omega) (by omega) ?_⟩) (fun n2 => p_of (w := 0) (by omega) (by omega) ?_)
      · replace e2 : th (20 * k) = 2 := e2
        have z99 : (sI τ 106 (10 * k + now % 10) (τ.1 111 k)).1 99 = th := by rw [sI_r, if_neg (by decide)]; exact t99
        rw [z99]
        refine ifn (dif e2 (by decide)) (ih (k + 1) _ (by omega) (fun c hc => by rw [sI_r, if_neg hc]; exact t1 c hc) ?_ t2 t8 ?_ ?_ (fun j hj => ?_))
        · rw [sI_r, if_pos rfl, tm, t1 111 (by decide), sf k hk' e2]
          show _ = (if th (20 * k) = 2 then _ else _)
          rw [if_pos e2]
        · show _ = σ.2 98 23 + (sm k (caF n th V 4) + caF n th V 4 k)
          rw [show caF n th V 4 k = 0 by unfold caF; rw [if_neg (fun z => dif e2 (by decide) z.1)], Int64.add_zero]; exact t23
        · show _ = σ.2 98 24 + (sm k (caF n th V 5) + caF n th V 5 k)
          rw [show caF n th V 5 k = 0 by unfold caF; rw [if_neg (fun z => dif e2 (by decide) z.1)], Int64.add_zero]; exact t24
        · show _ = sm k (goF n th V j) + goF n th V j k
          rw [show goF n th V j k = 0 by unfold goF; rw [if_neg (dif e2 (by decide))], Int64.add_zero]; exact tg j hj
      · replace n2 : ¬ th (20 * k) = 2 := n2
        rw [t99]
        refine ite2 (fun e3 => p_flowOf (V := V) h16 (by rw [t98]; exact hn) t99 (fun j hj => by rw [t1 110 (by decide)]; exact sv j hj) vn tw.e4 hk' e3 (p_of (w := 4) (by omega) (by omega) (p_of (w := 5) (by omega) (by omega) ?_))) (fun e3 => ?_)
        · replace e3 : th (20 * k) = 3 := e3
          rw [t99]
          have cF : ∀ w, caF n th V w k = if th (20 * k + w) < 0 then (fl1 n th V k).toInt64 else 0 := fun w => by
            unfold caF
            by_cases h : th (20 * k + w) < 0
            · rw [if_pos h, if_pos ⟨e3, h⟩]
            · rw [if_neg h, if_neg (fun z => h z.2)]
          have gF : ∀ j, goF n th V j k = (if th (20 * k + 5) = nI j then (fl1 n th V k).toInt64 else 0) - (if th (20 * k + 4) = nI j then (fl1 n th V k).toInt64 else 0) := fun j => by unfold goF; rw [if_pos e3]
          rcases tw.e4 k hk' e3 with e | ⟨j, hj, e, ej⟩
          · rcases tw.e5 k hk' e3 with e' | ⟨j', hj', e', ej'⟩
            · rw [e, e'] at gF ⊢
              refine ifn (by decide) (ifn (by decide) (fin _ rfl n2 (fun c h1 h2 => by rw [sL_l, if_neg h1, sL_l, if_neg h1]) (fun x h1 h2 => by rw [sL_l, if_pos rfl, updL_r, if_neg h2, sL_l, if_pos rfl, updL_r, if_neg h1]) ?_ ?_ (fun i hi => ?_)))
              · rw [cF, e, if_pos (by decide), sL_l, if_pos rfl, updL_r, if_neg (by decide), sL_l, if_pos rfl, pk_uLs]; rfl
              · rw [cF, e', if_pos (by decide), sL_l, if_pos rfl, pk_uLs]; rfl
              · rw [gF, if_neg (ne9 (by omega)), sL_l, if_neg (by decide), sL_l, if_neg (by decide), Int64.sub_zero, Int64.add_zero]
            · rw [e, e'] at gF ⊢
              have hvj : vp_in (nI j') 16 := vp_in_nI (by omega) (by omega)
              have hcl : (oI (some (.int (nI j')))).toNatClampNeg = j' := nI_clamp (by omega)
              rw [hcl]
              refine ifn (by decide) (ifp (nI_pos' (by omega)) ⟨hvj, hvj, fin _ rfl n2 (fun c h1 h2 => by rw [sL_l, if_neg h2, sL_l, if_neg h1]) (fun x h1 h2 => by rw [sL_l, if_neg (by decide), sL_l, if_pos rfl, updL_r, if_neg h1]) ?_ ?_ (fun i hi => ?_)⟩)
              · rw [cF, e, if_pos (by decide), sL_l, if_neg (by decide), sL_l, if_pos rfl, pk_uLs]; rfl
              · rw [cF, e', if_neg (nI_pos (by omega)), sL_l, if_neg (by decide), sL_l, if_pos rfl, updL_r, if_neg (by decide)]; exact (Int64.add_zero _).symm
              · rw [gF, if_neg (c := (-9 : Int32) = nI i) (ne9 (by omega)), sL_l, if_pos rfl, updL_r]
                by_cases ei : i = j'
                · rw [if_pos ei, ei, if_pos rfl, Int64.sub_zero]; rfl
                · rw [if_neg ei, if_neg (fun z => ei ((nI_eq (by omega) (by omega)).mp z).symm), sL_l, if_neg (by decide), Int64.sub_zero, Int64.add_zero]
          · have hvj : vp_in (nI j) 16 := vp_in_nI (by omega) (by omega)
            have hcl : (oI (some (.int (nI j)))).toNatClampNeg = j := nI_clamp (by omega)
            rcases tw.e5 k hk' e3 with e' | ⟨j', hj', e', ej'⟩
            · rw [e, e'] at gF ⊢
              rw [hcl]
              refine ifp (nI_pos' (by omega)) ⟨hvj, hvj, ifn (by decide) (fin _ rfl n2 (fun c h1 h2 => by rw [sL_l, if_neg h1, sL_l, if_neg h2]) (fun x h1 h2 => by rw [sL_l, if_pos rfl, updL_r, if_neg h2, sL_l, if_neg (by decide)]) ?_ ?_ (fun i hi => ?_))⟩
              · rw [cF, e, if_neg (nI_pos (by omega)), sL_l, if_pos rfl, updL_r, if_neg (by decide), sL_l, if_neg (by decide)]; exact (Int64.add_zero _).symm
              · rw [cF, e', if_pos (by decide), sL_l, if_pos rfl, pk_uLs]; rfl
              · rw [gF, if_neg (c := (-9 : Int32) = nI i) (ne9 (by omega)), sL_l, if_neg (by decide), sL_l, if_pos rfl, updL_r]
                by_cases ei : i = j
                · rw [if_pos ei, ei, if_pos rfl, ← l_sub, Int64.add_zero]; rfl
                · rw [if_neg ei, if_neg (fun z => ei ((nI_eq (by omega) (by omega)).mp z).symm), Int64.sub_zero, Int64.add_zero]
            · rw [e, e'] at gF ⊢
              have hvj' : vp_in (nI j') 16 := vp_in_nI (by omega) (by omega)
              have hcl' : (oI (some (.int (nI j')))).toNatClampNeg = j' := nI_clamp (by omega)
              rw [hcl, hcl']
              refine ifp (nI_pos' (by omega)) ⟨hvj, hvj, ifp (nI_pos' (by omega)) ⟨hvj', hvj', fin _ rfl n2 (fun c h1 h2 => by rw [sL_l, if_neg h2, sL_l, if_neg h2]) (fun x h1 h2 => by rw [sL_l, if_neg (by decide), sL_l, if_neg (by decide)]) ?_ ?_ (fun i hi => ?_)⟩⟩
              · rw [cF, e, if_neg (nI_pos (by omega)), sL_l, if_neg (by decide), sL_l, if_neg (by decide)]; exact (Int64.add_zero _).symm
              · rw [cF, e', if_neg (nI_pos (by omega)), sL_l, if_neg (by decide), sL_l, if_neg (by decide)]; exact (Int64.add_zero _).symm
              · rw [gF, ← l_sub, sL_l, if_pos rfl, updL_r]
                have s1e : ∀ x, x < 16 → (sL τ 112 j (τ.2 112 j - (oI (some (.int (fl1 n th V k)))).toInt64)).2 112 x = τ.2 112 x - (if nI j = nI x then (fl1 n th V k).toInt64 else 0) := fun x hx => by
                  rw [sL_l, if_pos rfl, updL_r]
                  by_cases exj : x = j
                  · rw [if_pos exj, exj, if_pos rfl]; rfl
                  · rw [if_neg exj, if_neg (fun z => exj ((nI_eq (by omega) (by omega)).mp z).symm), Int64.sub_zero]
                by_cases ei : i = j'
                · rw [if_pos ei, if_pos (show nI j' = nI i by rw [ei]), s1e _ (by omega), ei]; rfl
                · rw [if_neg ei, if_neg (fun z => ei ((nI_eq (by omega) (by omega)).mp z).symm), s1e _ (by omega), Int64.add_zero]
        · replace e3 : ¬ th (20 * k) = 3 := e3
          refine fin τ rfl n2 (fun _ _ _ => rfl) (fun _ _ _ => rfl) ?_ ?_ (fun j hj => ?_)
          · rw [show caF n th V 4 k = 0 by unfold caF; rw [if_neg (fun z => e3 z.1)], Int64.add_zero]
          · rw [show caF n th V 5 k = 0 by unfold caF; rw [if_neg (fun z => e3 z.1)], Int64.add_zero]
          · rw [show goF n th V j k = 0 by unfold goF; rw [if_neg e3], Int64.add_zero]
  have k6 : ∀ (c k : Nat) (τ : Hp), k + c = n → τ.1 = σ1.1 → (∀ c, c ≠ 112 → τ.2 c = σ1.2 c) → (∀ j, j < k → τ.2 112 j = 0) → WP c_M_steps (CTs (d + 4)) K (6, [(0, .ref 98), (1, .int (nI k))], []) τ := by
    intro c
    induction c with
    | zero =>
      intro k τ hk t1 t2 t0
      have ek : k = n := by omega
      rw [ek] at t0 ⊢
      refine t_M_steps_6 ?_
      rw [t1, s98, hn]
      refine ifp (Int32.le_refl _) (k29 n 0 τ (by omega) (fun _ _ => by rw [t1]) ?_ (fun c h1 h2 => by rw [t2 c h2, s2]) (fun x _ _ => by rw [t2 98 (by decide), s2]) ?_ ?_ (fun j hj => t0 j hj))
      · rw [t1, s1 106 (by decide) (by decide) (by decide)]; rfl
      · rw [t2 98 (by decide), s2]; exact (Int64.add_zero _).symm
      · rw [t2 98 (by decide), s2]; exact (Int64.add_zero _).symm
    | succ c ih =>
      intro k τ hk t1 t2 t0
      refine t_M_steps_6 ?_
      rw [t1, s98, hn, nI_1, nI_clamp (by omega)]
      refine ifn (nI_ge (by omega) (by omega)) ⟨vp_in_nI (by omega) (by omega), ih (k + 1) _ (by omega) t1 (fun c hc => by rw [sL_l, if_neg hc]; exact t2 c hc) (fun j hj => ?_)⟩
      rw [sL_l, if_pos rfl, updL_r]
      by_cases e : j = k
      · rw [if_pos e]
      · rw [if_neg e]; exact t0 j (by omega)
  exact k6 n 0 σ1 (by omega) rfl (fun _ _ => rfl) (fun j hj => absurd hj (by omega))
