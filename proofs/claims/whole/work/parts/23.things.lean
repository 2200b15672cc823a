/-! ===== things, names ===== -/
theorem op_thing : O_thing Rel := by
  intro σ a1 a2 h
  obtain ⟨⟨n, now, ne, a, b, c, ⟨tw, cx, -, -, -, -⟩, -⟩, -, -⟩ := id h
  have h16 := tw.1
  refine e_SS_thing (t_SS_thing_0 ?_)
  rcases ixc a1 (n := n) (by omega) with z | ⟨i, hi, rfl⟩
  · exact p_has0 (Or.inl rfl) cx.1 z (o0 (e_M_thing (t_M_thing_0 (p_isThing0 a h16 z (o0 ⟨rfl, h⟩)))))
  · refine p_has1 (Or.inl rfl) cx.1 h16 hi (o1 ?_)
    obtain ⟨x1, x2, x3, x4, -⟩ := cx.2.1 i hi
    have hv : vp_in (nI i) 16 := vp_in_nI (by omega) (by omega)
    have hcl : (nI i).toNatClampNeg = i := nI_clamp (by omega)
    rw [hcl]
    rcases ixc a2 (n := 4) (by omega) with z | ⟨w, hw, rfl⟩
    · have ne0 : ∀ w, w < 4 → a2 ≠ nI w := fun w hw e => by
        subst e
        rcases z with z | z
        · exact nI_pos (by omega) z
        · exact nI_ge hw (by omega) z
      exact ifn (ne0 0 (by omega)) (ifn (ne0 1 (by omega)) (ifn (ne0 2 (by omega)) (ifn (ne0 3 (by omega)) (e_M_thing (t_M_thing_0 (p_isThing1 a h16 hi (o1 (p_inN' (n := 4) rfl z (by omega) (o0 ⟨rfl, h⟩)))))))))
    · have key : ∀ (u : Int32) (w2 : Nat), w2 < 20 → u = σ.1 99 (20 * i + w2) → CTs 56 y_M_of [.ref 98, .int (nI i), .int (nI w2)] σ (fun r σ' => oI (some (.int u)) = oI (some (.int (oI r))) ∧ Rel σ') := fun u w2 h2 hu => p_of (by omega) h2 ⟨hu, h⟩
      match w, hw with
      | 0, _ => exact ifp rfl ⟨hv, e_M_thing (t_M_thing_0 (p_isThing1 a h16 hi (o1 (p_inJ' (n := 4) rfl (by omega) (by omega) (o1 (ifp rfl (cts_up (by omega) (key _ 0 (by omega) x1))))))))⟩
      | 1, _ => exact ifn (by decide) (ifp rfl ⟨hv, e_M_thing (t_M_thing_0 (p_isThing1 a h16 hi (o1 (p_inJ' (n := 4) rfl (by omega) (by omega) (o1 (ifn (by decide) (ifp rfl (cts_up (by omega) (key _ 1 (by omega) x2)))))))))⟩)
      | 2, _ => exact ifn (by decide) (ifn (by decide) (ifp rfl ⟨hv, e_M_thing (t_M_thing_0 (p_isThing1 a h16 hi (o1 (p_inJ' (n := 4) rfl (by omega) (by omega) (o1 (ifn (by decide) (ifn (by decide) (ifp rfl (cts_up (by omega) (key _ 4 (by omega) x3))))))))))⟩))
      | 3, _ => exact ifn (by decide) (ifn (by decide) (ifn (by decide) (ifp rfl ⟨hv, e_M_thing (t_M_thing_0 (p_isThing1 a h16 hi (o1 (p_inJ' (n := 4) rfl (by omega) (by omega) (o1 (ifn (by decide) (ifn (by decide) (ifn (by decide) (cts_up (by omega) (key _ 5 (by omega) x4))))))))))⟩)))
/-- the first thing of a name, from k on -/
def fnd (f : Nat → Int32) (x : Int32) : Nat → Nat → Option Nat
  | 0, _ => none
  | c + 1, k => if f k = x then some k else fnd f x c (k + 1)
theorem fnd_lt {f : Nat → Int32} {x : Int32} : ∀ c k j, fnd f x c k = some j → k ≤ j ∧ j < k + c ∧ f j = x := by
  intro c
  induction c with
  | zero => intro k j h; cases h
  | succ c ih =>
    intro k j h
    unfold fnd at h
    by_cases e : f k = x
    · rw [if_pos e] at h; cases h; exact ⟨Nat.le_refl _, by omega, e⟩
    · rw [if_neg e] at h
      have := ih _ _ h
      exact ⟨by omega, by omega, this.2.2⟩
theorem p_find {d : Nat} {K : Po} {σ : Hp} {t n : Nat} {x : Int32} (hs : t = 3 ∨ t = 17) (hn : σ.1 t 0 = nI n) (h16 : n ≤ 16) (k0 : fnd (σ.1 (t + 2)) x n 0 = none → K (some (.int (-1))) σ) (k1 : ∀ j, j < n → fnd (σ.1 (t + 2)) x n 0 = some j → K (some (.int (nI j))) σ) : CTs (d + 1) y_Tx_find [.ref t, .int x] σ K := by
  refine e_Tx_find hs (t_Tx_find_0 hs ?_)
  have key : ∀ c k, k + c = n → (fnd (σ.1 (t + 2)) x c k = none → K (some (.int (-1))) σ) → (∀ j, j < n → fnd (σ.1 (t + 2)) x c k = some j → K (some (.int (nI j))) σ) → WP c_Tx_find (CTs d) K (2, [(0, .ref t), (1, .int x), (2, .int (nI k))], []) σ := by
    intro c
    induction c with
    | zero =>
      intro k hk a0 a1
      refine t_Tx_find_2 hs ?_
      rw [hn]
      exact ifp (nI_le (by omega) (by omega)) (a0 rfl)
    | succ c ih =>
      intro k hk a0 a1
      refine t_Tx_find_2 hs ?_
      rw [hn, nI_clamp (by omega)]
      refine ifn (nI_ge (by omega) (by omega)) ⟨vp_in_nI (by omega) (by omega), ite2 (fun e => ?_) (fun e => ?_)⟩
      · exact a1 k (by omega) (by unfold fnd; rw [if_pos e])
      · rw [nI_1]
        unfold fnd at a0 a1
        rw [if_neg e] at a0 a1
        exact ih (k + 1) (by omega) a0 a1
  exact key n 0 (by omega) k0 k1
theorem fnd_cong {f g : Nat → Int32} {x : Int32} : ∀ c k, (∀ j, k ≤ j → j < k + c → f j = g j) → fnd f x c k = fnd g x c k := by
  intro c
  induction c with
  | zero => intros; rfl
  | succ c ih =>
    intro k h
    unfold fnd
    rw [h k (by omega) (by omega), ih (k + 1) (fun j h1 h2 => h j (by omega) (by omega))]
theorem p_mnamed {d : Nat} {K : Po} {σ : Hp} {n : Nat} {x : Int32} (hn : σ.1 98 0 = nI n) (h16 : n ≤ 16) (k0 : fnd (fun k => σ.1 99 (20 * k + 1)) x n 0 = none → K (some (.int (-3))) σ) (k1 : ∀ j, j < n → fnd (fun k => σ.1 99 (20 * k + 1)) x n 0 = some j → K (some (.int (nI j))) σ) : CTs (d + 2) y_M_named [.ref 98, .int x] σ K := by
  refine e_M_named (t_M_named_0 ?_)
  have key : ∀ c k, k + c = n → (fnd (fun k => σ.1 99 (20 * k + 1)) x c k = none → K (some (.int (-3))) σ) → (∀ j, j < n → fnd (fun k => σ.1 99 (20 * k + 1)) x c k = some j → K (some (.int (nI j))) σ) → WP c_M_named (CTs (d + 1)) K (2, [(0, .ref 98), (1, .int x), (2, .int (nI k))], []) σ := by
    intro c
    induction c with
    | zero =>
      intro k hk a0 a1
      refine t_M_named_2 ?_
      rw [hn]
      exact ifp (nI_le (by omega) (by omega)) (a0 rfl)
    | succ c ih =>
      intro k hk a0 a1
      refine t_M_named_2 ?_
      rw [hn]
      refine ifn (nI_ge (by omega) (by omega)) (p_of (w := 1) (by omega) (by omega) (ite2 (c := σ.1 99 (20 * k + 1) = x) (fun e => ?_) (fun e => ?_)))
      · exact a1 k (by omega) (by unfold fnd; rw [if_pos e])
      · rw [nI_1]
        unfold fnd at a0 a1
        rw [if_neg e] at a0 a1
        exact ih (k + 1) (by omega) a0 a1
  exact key n 0 (by omega) k0 k1
theorem op_named : O_named Rel := by
  intro σ a1 h
  obtain ⟨⟨n, now, ne, a, b, c, ⟨tw, cx, -, -, -, -⟩, -⟩, -, -⟩ := id h
  have h16 := tw.1
  have hc : fnd (σ.1 5) a1 n 0 = fnd (fun k => σ.1 99 (20 * k + 1)) a1 n 0 := fnd_cong n 0 (fun j _ hj => (cx.2.1 j (by omega)).2.1)
  refine e_SS_named (t_SS_named_0 (p_find (n := n) (Or.inl rfl) cx.1 h16 (fun q => ?_) (fun j hj q => ?_)))
  · refine ifn (by decide) (p_mnamed a h16 (fun _ => ⟨rfl, h⟩) (fun j hj q2 => ?_))
    rw [show (3 : Nat) + 2 = 5 from rfl, hc] at q
    rw [q] at q2
    cases q2
  · refine ifp (nI_pos' (by omega)) (p_mnamed a h16 (fun q2 => ?_) (fun j2 hj2 q2 => ?_))
    · rw [show (3 : Nat) + 2 = 5 from rfl, hc, q2] at q
      cases q
    · rw [show (3 : Nat) + 2 = 5 from rfl, hc, q2] at q
      cases q
      exact ⟨rfl, h⟩
/-! ===== sheets and shelves ===== -/
theorem p_sSheet1 {d : Nat} {K : Po} {σ : Hp} {j : Nat} (h : j < 4) (k : K (some (.int 1)) σ) : CTs (d + 1) y_SS_isSheet [.ref 0, .int (nI j)] σ K := e_SS_isSheet (t_SS_isSheet_0 (ifn (nI_pos (by omega)) (ifn (nI_ge (b := 4) h (by omega)) ⟨vb1, k⟩)))
theorem p_sSheet0 {d : Nat} {K : Po} {σ : Hp} {a : Int32} (h : nIx a 4) (k : K (some (.int 0)) σ) : CTs (d + 1) y_SS_isSheet [.ref 0, .int a] σ K := by
  refine e_SS_isSheet (t_SS_isSheet_0 (ite2 (fun _ => ⟨vb0, k⟩) (fun h1 => ifp ?_ ⟨vb0, k⟩)))
  rcases h with h | h
  · exact absurd h h1
  · exact h
theorem p_sShelf1 {d : Nat} {K : Po} {σ : Hp} {j : Nat} (h : j < 4) (k : K (some (.int 1)) σ) : CTs (d + 1) y_SS_isShelf [.ref 0, .int (nI j)] σ K := e_SS_isShelf (t_SS_isShelf_0 (ifn (nI_pos (by omega)) (ifn (nI_ge (b := 4) h (by omega)) ⟨vb1, k⟩)))
theorem p_sShelf0 {d : Nat} {K : Po} {σ : Hp} {a : Int32} (h : nIx a 4) (k : K (some (.int 0)) σ) : CTs (d + 1) y_SS_isShelf [.ref 0, .int a] σ K := by
  refine e_SS_isShelf (t_SS_isShelf_0 (ite2 (fun _ => ⟨vb0, k⟩) (fun h1 => ifp ?_ ⟨vb0, k⟩)))
  rcases h with h | h
  · exact absurd h h1
  · exact h
theorem p_mShelf1 {d : Nat} {K : Po} {σ : Hp} {j : Nat} (h : j < 4) (k : K (some (.int 1)) σ) : CTs (d + 2) y_M_isShelf [.int (nI j)] σ K := e_M_isShelf (t_M_isShelf_0 (p_inJ' (n := 4) rfl h (by omega) ⟨vb1, k⟩))
theorem p_mShelf0 {d : Nat} {K : Po} {σ : Hp} {a : Int32} (h : nIx a 4) (k : K (some (.int 0)) σ) : CTs (d + 2) y_M_isShelf [.int a] σ K := e_M_isShelf (t_M_isShelf_0 (p_inN' (n := 4) rfl h (by omega) ⟨vb0, k⟩))
theorem p_miss1 {d : Nat} {K : Po} {σ : Hp} {j : Nat} (h : j < 4) (hm : σ.1 82 j = -1) (k : K (some (.int 1)) σ) : CTs (d + 1) y_SS_isMissing [.ref 0, .int (nI j)] σ K := by
  refine e_SS_isMissing (t_SS_isMissing_0 ⟨vp_in_nI (by omega) (by omega), ?_⟩)
  rw [nI_clamp (by omega)]
  exact ifp hm ⟨vb1, k⟩
theorem p_miss0 {d : Nat} {K : Po} {σ : Hp} {j : Nat} (h : j < 4) (hm : σ.1 82 j ≠ -1) (k : K (some (.int 0)) σ) : CTs (d + 1) y_SS_isMissing [.ref 0, .int (nI j)] σ K := by
  refine e_SS_isMissing (t_SS_isMissing_0 ⟨vp_in_nI (by omega) (by omega), ?_⟩)
  rw [nI_clamp (by omega)]
  exact ifn hm ⟨vb0, k⟩
theorem nI_nm1 {k : Nat} (h : k < 2 ^ 31) : nI k ≠ -1 := fun e => by
  have := congrArg Int32.toInt e
  rw [nI_toInt h, show (-1 : Int32).toInt = -1 from rfl] at this
  omega
theorem ix_40 {s i : Nat} (hs : s < 4) (hi : i < 40) : (vp_in (nI s * (40 : Int32) + nI i) 160 ∧ (nI s * (40 : Int32) + nI i).toNatClampNeg = 40 * s + i) ∧ vp_in ((40 : Int32) * nI s + nI i) 160 ∧ ((40 : Int32) * nI s + nI i).toNatClampNeg = 40 * s + i := by
  have e1 : nI s * (40 : Int32) + nI i = nI (40 * s + i) := by rw [show (40 : Int32) = nI 40 from rfl, pk_mul, nI_add, Nat.mul_comm]
  have e2 : (40 : Int32) * nI s + nI i = nI (40 * s + i) := by rw [show (40 : Int32) = nI 40 from rfl, pk_mul, nI_add]
  rw [e1, e2]
  exact ⟨⟨vp_in_nI (by omega) (by omega), nI_clamp (by omega)⟩, vp_in_nI (by omega) (by omega), nI_clamp (by omega)⟩
def nrw (v so : Int32) : Int32 := if so = 0 then v.toInt8.toInt32 else if so = 1 then v.toInt16.toInt32 else v
theorem p_narrowed {d : Nat} {K : Po} {σ : Hp} {v so : Int32} (k : K (some (.int (nrw v so))) σ) : CTs (d + 1) y_SS_narrowed [.int v, .int so] σ K := by
  refine e_SS_narrowed (t_SS_narrowed_0 ?_)
  unfold nrw at k
  refine ite2 (fun h => ?_) (fun h => ite2 (fun h1 => ?_) (fun h1 => ?_))
  · rw [if_pos h] at k; exact k
  · rw [if_neg h, if_pos h1] at k; exact k
  · rw [if_neg h, if_neg h1] at k; exact k
theorem op_put : O_put Rel := by
  intro σ a1 a2 a3 h
  obtain ⟨⟨n, now, ne, hc⟩, hr, hkp⟩ := id h
  obtain ⟨sh, it⟩ := hr.2.2.2.1
  refine e_SS_put (t_SS_put_0 ?_)
  rcases ixc a1 (n := 4) (by omega) with z | ⟨s, hs, rfl⟩
  · exact p_sSheet0 z (o0 (e_M_put (t_M_put_0 (p_mShelf0 z (o0 ⟨rfl, h⟩)))))
  obtain ⟨s1, s2, s3, z, hz, s4⟩ := sh s hs
  have hv : vp_in (nI s) 4 := vp_in_nI (by omega) (by omega)
  have hcl : (nI s).toNatClampNeg = s := nI_clamp (by omega)
  refine p_sSheet1 hs (o1 ?_)
  rw [hcl]
  rcases s2 with s2 | ⟨so, hso, s2⟩
  · refine p_miss1 hs (s1.trans s2) (o1 (e_M_put (t_M_put_0 (p_mShelf1 hs (o1 ⟨hv, ?_⟩)))))
    rw [hcl, s2]
    exact ifn (by decide) ⟨rfl, h⟩
  refine p_miss0 hs (by rw [s1, s2]; exact nI_nm1 (by omega)) (o0 ?_)
  have hm : ∀ K : Po, CTs 58 y_M_in [.int a2, .int 0, .int (σ.1 120 s - 1)] σ K → True := fun _ _ => trivial
  rcases ixc a2 (n := z) (by omega) with q | ⟨i, hi, rfl⟩
  · have hm : CTs 60 y_M_put [.ref 98, .int (nI s), .int a2, .int a3] σ (fun r' σ2 => oI (some (.int (-12 : Int32))) = oI r' ∧ Rel σ2) := by
      refine e_M_put (t_M_put_0 (p_mShelf1 hs (o1 ⟨hv, ?_⟩)))
      rw [hcl]
      refine ifp (by rw [s2]; exact nI_pos' (by omega)) ⟨hv, ?_⟩
      rw [s4]
      exact p_inN q (by omega) (o0 ⟨rfl, h⟩)
    refine ite2 (fun _ => hm) (fun h1 => ⟨hv, ifn ?_ hm⟩)
    rcases q with q | q
    · exact absurd q h1
    · rw [s3, s4]; exact Int32.not_lt.mpr q
  · have e := ix_40 (s := s) (i := i) hs (by omega)
    refine ifn (nI_pos (by omega)) ⟨hv, ifp (by rw [s3, s4]; exact nI_lt hi (by omega)) ⟨hv, p_narrowed ⟨e.1.1, ?_⟩⟩⟩
    rw [e.1.2]
    refine e_M_put (t_M_put_0 (p_mShelf1 hs (o1 ⟨hv, ?_⟩)))
    rw [hcl]
    show (if 0 ≤ σ.1 119 s then _ else _)
    refine ifp (by rw [s2]; exact nI_pos' (by omega)) ⟨hv, ?_⟩
    show CTs 59 y_M_in [.int (nI i), .int 0, .int (σ.1 120 s - 1)] _ _
    rw [s4]
    have fin : ∀ v : Int32, v = nrw a3 (σ.1 82 s) → oI (some (.int (1 : Int32))) = oI (some (.int (1 : Int32))) ∧ Rel (sL (sI σ 84 (40 * s + i) (nrw a3 (σ.1 82 s))) 121 (40 * s + i) v.toInt64) := by
      intro v hv
      refine ⟨rfl, ⟨n, now, ne, hc.same ((SameG.rf.sI rfl).sL rfl)⟩, ?_, hkp.same ((SameG.rf.sI rfl).sL rfl)⟩
      obtain ⟨g1, g2, g3, g4, g5, g6⟩ := hr
      refine ⟨g1, g2, g3, ⟨sh, fun k hk => ?_⟩, g5, g6⟩
      show vp_updL (σ.2 121) (40 * s + i) v.toInt64 k = (upd (σ.1 84) (40 * s + i) (nrw a3 (σ.1 82 s)) k).toInt64
      rw [updL_r, upd_r]
      by_cases ek : k = 40 * s + i
      · rw [if_pos ek, if_pos ek, hv]
      · rw [if_neg ek, if_neg ek]; exact it k hk
    rw [e.2.2]
    refine p_inJ hi (by omega) (o1 ⟨hv, ?_⟩)
    show (if σ.1 119 s = 0 then _ else _)
    refine ite2 (fun h0 => ⟨e.2.1, fin _ ?_⟩) (fun h0 => ⟨hv, ?_⟩)
    · unfold nrw; rw [s1, if_pos h0]
    · show (if σ.1 119 s = 1 then _ else _)
      refine ite2 (fun h1 => ⟨e.2.1, fin _ ?_⟩) (fun h1 => ⟨e.2.1, fin _ ?_⟩)
      · unfold nrw; rw [s1, if_neg h0, if_pos h1]
      · unfold nrw; rw [s1, if_neg h0, if_neg h1]
theorem op_item : O_item Rel := by
  intro σ a1 a2 a3 h
  obtain ⟨⟨n, now, ne, hc⟩, hr, hkp⟩ := id h
  obtain ⟨sh, it⟩ := hr.2.2.2.1
  refine e_SS_item (t_SS_item_0 ?_)
  rcases ixc a1 (n := 4) (by omega) with z | ⟨s, hs, rfl⟩
  · exact p_sSheet0 z (o0 (e_M_item (t_M_item_0 (p_mShelf0 z (o0 ⟨rfl, h⟩)))))
  obtain ⟨s1, s2, s3, z, hz, s4⟩ := sh s hs
  have hv : vp_in (nI s) 4 := vp_in_nI (by omega) (by omega)
  have hcl : (nI s).toNatClampNeg = s := nI_clamp (by omega)
  refine p_sSheet1 hs (o1 ?_)
  rw [hcl]
  rcases ixc a2 (n := 4) (by omega) with q | ⟨w, hw, rfl⟩
  · have hm : CTs 60 y_M_item [.ref 98, .int (nI s), .int a2, .int a3] σ (fun r' σ2 => oI (some (.int (-1 : Int32))) = oI r' ∧ Rel σ2) := e_M_item (t_M_item_0 (p_mShelf1 hs (o1 (p_inN' (n := 4) rfl q (by omega) (o0 ⟨rfl, h⟩)))))
    refine ite2 (fun _ => hm) (fun h1 => ifn ?_ hm)
    rcases q with q | q
    · exact absurd q h1
    · intro z
      exact absurd (Int32.le_trans q z) (by decide)
  refine ifn (nI_pos (by omega)) (ifp (nI_le (b := 3) (by omega) (by omega)) ?_)
  have lack : ∀ (K : Po) (x : Int32), (σ.1 119 s = -1 → x = -11) → (σ.1 119 s ≠ -1 → σ.1 119 s = nI w → x = 0) → (σ.1 119 s ≠ -1 → σ.1 119 s ≠ nI w → x = -13) → K (some (.int x)) σ → CTs 59 y_M_lacksSort [.ref 98, .int (nI s), .int (nI w)] σ K := by
    intro K x c1 c2 c3 k
    refine e_M_lacksSort (t_M_lacksSort_0 ⟨hv, ?_⟩)
    rw [hcl]
    rcases s2 with s2 | ⟨so, hso, s2⟩
    · refine ifn (by rw [s2]; decide) ?_
      rw [c1 s2] at k; exact k
    · have hne : σ.1 119 s ≠ -1 := by rw [s2]; exact nI_nm1 (by omega)
      refine ifp (by rw [s2]; exact nI_pos' (by omega)) ⟨hv, ite2 (fun e => ?_) (fun e => ?_)⟩
      · rw [c2 hne e] at k; exact k
      · rw [c3 hne e] at k; exact k
  have mgo : ∀ (K : Po) (x : Int32), (σ.1 119 s = -1 → x = -11) → (σ.1 119 s ≠ -1 → σ.1 119 s = nI w → False) → (σ.1 119 s ≠ -1 → σ.1 119 s ≠ nI w → x = -13) → K (some (.int x)) σ → CTs 60 y_M_item [.ref 98, .int (nI s), .int (nI w), .int a3] σ K := by
    intro K x c1 c2 c3 k
    refine e_M_item (t_M_item_0 (p_mShelf1 hs (o1 (p_inJ' (n := 4) rfl hw (by omega) (o1 (lack _ x c1 (fun p q => (c2 p q).elim) c3 (ifn (c := x = 0) ?_ k)))))))
    intro e0
    by_cases p : σ.1 119 s = -1
    · have := c1 p; rw [e0] at this; exact absurd this (by decide)
    · by_cases q : σ.1 119 s = nI w
      · exact c2 p q
      · have := c3 p q; rw [e0] at this; exact absurd this (by decide)
  by_cases hmis : σ.1 119 s = -1
  · refine e_SS_mayBe (t_SS_mayBe_0 (p_miss1 hs (s1.trans hmis) (o1 ⟨vb1, o1 (p_miss1 hs (s1.trans hmis) (o1 ?_))⟩)))
    exact mgo _ (-11) (fun _ => rfl) (fun p _ => p hmis) (fun p _ => absurd hmis p) ⟨rfl, h⟩
  · refine e_SS_mayBe (t_SS_mayBe_0 (p_miss0 hs (by rw [s1]; exact hmis) (o0 ⟨hv, ?_⟩)))
    rw [hcl]
    refine ite2 (fun e0 => ⟨vb1, o1 (p_miss0 hs (by rw [s1]; exact hmis) (o0 ?_))⟩) (fun e0 => ⟨vb0, o0 ?_⟩)
    · have hl := fun (K : Po) (k : K (some (.int 0)) σ) => lack K 0 (fun p => absurd p hmis) (fun _ _ => rfl) (fun _ p => absurd (s1.symm.trans e0) p) k
      rcases ixc a3 (n := z) (by omega) with q | ⟨i, hi, rfl⟩
      · have hm : CTs 60 y_M_item [.ref 98, .int (nI s), .int (nI w), .int a3] σ (fun r' σ2 => oI (some (.int (-12 : Int32))) = oI r' ∧ Rel σ2) := by
          refine e_M_item (t_M_item_0 (p_mShelf1 hs (o1 (p_inJ' (n := 4) rfl hw (by omega) (o1 (hl _ (o0 ⟨hv, ?_⟩)))))))
          rw [hcl, s4]
          exact p_inN q (by omega) (o0 ⟨rfl, h⟩)
        refine ite2 (fun _ => hm) (fun h1 => ⟨hv, ifn ?_ hm⟩)
        rcases q with q | q
        · exact absurd q h1
        · rw [s3, s4]; exact Int32.not_lt.mpr q
      · have e := ix_40 (s := s) (i := i) hs (by omega)
        refine ifn (nI_pos (by omega)) ⟨hv, ifp (by rw [s3, s4]; exact nI_lt hi (by omega)) ⟨e.1.1, e_M_item (t_M_item_0 (p_mShelf1 hs (o1 (p_inJ' (n := 4) rfl hw (by omega) (o1 (hl _ (o0 ⟨hv, ?_⟩)))))))⟩⟩
        rw [hcl, s4]
        refine p_inJ hi (by omega) (o1 ⟨e.2.1, ?_, h⟩)
        rw [e.1.2, e.2.2, it _ (by omega)]
        show σ.1 84 (40 * s + i) = (σ.1 84 (40 * s + i)).toInt64.toInt32
        simp
    · exact mgo _ (-13) (fun p => absurd p hmis) (fun _ p => e0 (s1.trans p)) (fun _ _ => rfl) ⟨rfl, h⟩
