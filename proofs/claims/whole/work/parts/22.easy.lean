/-! ===== small methods ===== -/
theorem nIx_lt {a : Int32} {n : Nat} (h : nIx a n) (hn : n < 2 ^ 30) : a < 0 ∨ nI n - 1 < a := by
  rcases h with h | h
  · exact Or.inl h
  · refine Or.inr ?_
    rw [Int32.le_iff_toInt_le, nI_toInt (by omega)] at h
    rw [Int32.lt_iff_toInt_lt, show nI n - 1 = nI n - nI 1 from rfl, pk_sub_toInt (by omega) (by omega)]
    omega
theorem nI_npred {j n : Nat} (h : j < n) (hn : n < 2 ^ 30) : ¬ nI n - 1 < nI j := by
  rw [Int32.lt_iff_toInt_lt, show nI n - 1 = nI n - nI 1 from rfl, pk_sub_toInt (by omega) (by omega), nI_toInt (by omega)]
  omega
theorem p_in1 {d : Nat} {K : Po} {σ : Hp} {a b c : Int32} (h1 : ¬ a < b) (h2 : ¬ c < a) (k : K (some (.int 1)) σ) : CTs (d + 1) y_M_in [.int a, .int b, .int c] σ K := e_M_in (t_M_in_0 (ifn h1 (ifn h2 ⟨vb1, k⟩)))
theorem p_in0 {d : Nat} {K : Po} {σ : Hp} {a b c : Int32} (h : a < b ∨ c < a) (k : K (some (.int 0)) σ) : CTs (d + 1) y_M_in [.int a, .int b, .int c] σ K := by
  refine e_M_in (t_M_in_0 (ite2 (fun _ => ⟨vb0, k⟩) (fun h1 => ifp ?_ ⟨vb0, k⟩)))
  rcases h with h | h
  · exact absurd h h1
  · exact h
/-- an index of n, or none: 0 ≤ a ≤ n - 1 -/
theorem p_inJ {d : Nat} {K : Po} {σ : Hp} {j n : Nat} (h : j < n) (hn : n < 2 ^ 30) (k : K (some (.int 1)) σ) : CTs (d + 1) y_M_in [.int (nI j), .int 0, .int (nI n - 1)] σ K := p_in1 (nI_pos (by omega)) (nI_npred h hn) k
theorem p_inN {d : Nat} {K : Po} {σ : Hp} {a : Int32} {n : Nat} (h : nIx a n) (hn : n < 2 ^ 30) (k : K (some (.int 0)) σ) : CTs (d + 1) y_M_in [.int a, .int 0, .int (nI n - 1)] σ K := p_in0 (nIx_lt h hn) k
/-- the same with a literal end m = n - 1 -/
theorem p_inJ' {d : Nat} {K : Po} {σ : Hp} {j n : Nat} {m : Int32} (hm : nI n - 1 = m) (h : j < n) (hn : n < 2 ^ 30) (k : K (some (.int 1)) σ) : CTs (d + 1) y_M_in [.int (nI j), .int 0, .int m] σ K := by
  subst hm
  exact p_inJ h hn k
theorem p_inN' {d : Nat} {K : Po} {σ : Hp} {a : Int32} {n : Nat} {m : Int32} (hm : nI n - 1 = m) (h : nIx a n) (hn : n < 2 ^ 30) (k : K (some (.int 0)) σ) : CTs (d + 1) y_M_in [.int a, .int 0, .int m] σ K := by
  subst hm
  exact p_inN h hn k
theorem p_isThing1 {d : Nat} {K : Po} {σ : Hp} {n j : Nat} (hn : σ.1 98 0 = nI n) (h16 : n ≤ 16) (h : j < n) (k : K (some (.int 1)) σ) : CTs (d + 2) y_M_isThing [.ref 98, .int (nI j)] σ K := by
  refine e_M_isThing (t_M_isThing_0 ?_)
  rw [hn]
  exact p_inJ h (by omega) ⟨vb1, k⟩
theorem p_isThing0 {d : Nat} {K : Po} {σ : Hp} {n : Nat} {a : Int32} (hn : σ.1 98 0 = nI n) (h16 : n ≤ 16) (h : nIx a n) (k : K (some (.int 0)) σ) : CTs (d + 2) y_M_isThing [.ref 98, .int a] σ K := by
  refine e_M_isThing (t_M_isThing_0 ?_)
  rw [hn]
  exact p_inN h (by omega) ⟨vb0, k⟩
theorem ix_of {i w : Nat} (hi : i < 16) (hw : w < 20) : vp_in ((20 : Int32) * nI i + nI w) 320 ∧ ((20 : Int32) * nI i + nI w).toNatClampNeg = 20 * i + w := by
  have e : (20 : Int32) * nI i + nI w = nI (20 * i + w) := by rw [show (20 : Int32) = nI 20 from rfl, pk_mul, nI_add]
  rw [e]
  exact ⟨vp_in_nI (by omega) (by omega), nI_clamp (by omega)⟩
theorem p_of {d : Nat} {K : Po} {σ : Hp} {i w : Nat} (hi : i < 16) (hw : w < 20) (k : K (some (.int (σ.1 99 (20 * i + w)))) σ) : CTs (d + 1) y_M_of [.ref 98, .int (nI i), .int (nI w)] σ K := by
  refine e_M_of (t_M_of_0 ⟨(ix_of hi hw).1, ?_⟩)
  rw [(ix_of hi hw).2]
  exact k
theorem p_has1 {d : Nat} {K : Po} {σ : Hp} {t n j : Nat} (hs : t = 3 ∨ t = 17) (hn : σ.1 t 0 = nI n) (h16 : n ≤ 16) (h : j < n) (k : K (some (.int 1)) σ) : CTs (d + 1) y_Tx_has [.ref t, .int (nI j)] σ K := by
  refine e_Tx_has hs (t_Tx_has_0 hs ?_)
  rw [hn]
  exact ifn (nI_pos (by omega)) (ifn (nI_ge h (by omega)) ⟨vb1, k⟩)
theorem p_has0 {d : Nat} {K : Po} {σ : Hp} {t n : Nat} {a : Int32} (hs : t = 3 ∨ t = 17) (hn : σ.1 t 0 = nI n) (h : nIx a n) (k : K (some (.int 0)) σ) : CTs (d + 1) y_Tx_has [.ref t, .int a] σ K := by
  refine e_Tx_has hs (t_Tx_has_0 hs (ite2 (fun _ => ⟨vb0, k⟩) (fun h1 => ?_)))
  rw [hn]
  rcases h with h | h
  · exact absurd h h1
  · exact ifp h ⟨vb0, k⟩
/-! ===== operations that only ask ===== -/
theorem op_fault : O_fault Rel := by
  intro σ a1 h
  have hf := h.2.1.2.1
  refine e_SS_fault (t_SS_fault_0 (ite2 (fun h0 => ?_) (fun h0 => ?_)))
  · subst h0
    refine e_M_fault (t_M_fault_0 (p_inJ' (n := 2) (j := 0) rfl (by omega) (by omega) (o1 (ifp rfl ⟨hf.1, h⟩))))
  · refine ite2 (fun h1 => ?_) (fun h1 => ?_)
    · subst h1
      exact e_M_fault (t_M_fault_0 (p_inJ' (n := 2) (j := 1) rfl (by omega) (by omega) (o1 (ifn (by decide) ⟨hf.2, h⟩))))
    · refine e_M_fault (t_M_fault_0 ?_)
      rcases ixc a1 (n := 2) (by omega) with q | ⟨j, hj, rfl⟩
      · exact p_inN' (n := 2) rfl q (by omega) (o0 ⟨rfl, h⟩)
      · match j, hj with
        | 0, _ => exact absurd rfl h0
        | 1, _ => exact absurd rfl h1
theorem op_many : O_many Rel := by
  intro σ a1 h
  obtain ⟨⟨n, now, ne, a, b, c, ⟨-, cx, -, cw, -, -⟩, -⟩, ⟨⟨f, -, f1, f2, -⟩, -, ⟨r, -, r1, r2, -⟩, -, -, ⟨q, -, q1, q2, -⟩⟩, -⟩ := id h
  refine e_SS_many (t_SS_many_0 ?_)
  refine ite2 (fun h0 => ?_) (fun h0 => ite2 (fun h1 => ?_) (fun h1 => ite2 (fun h2 => ?_) (fun h2 => ite2 (fun h3 => ?_) (fun h3 => ite2 (fun h4 => ?_) (fun h4 => ite2 (fun h5 => ?_) (fun h5 => ?_))))))
  · exact e_M_many (t_M_many_0 (ifp h0 ⟨show σ.1 3 0 = σ.1 98 0 from cx.1.trans a.symm, h⟩))
  · exact e_M_many (t_M_many_0 (ifn h0 (ifp h1 ⟨show σ.1 45 0 = σ.1 98 19 from cw.1.trans b.symm, h⟩)))
  · exact e_M_many (t_M_many_0 (ifn h0 (ifn h1 (ifp h2 ⟨show σ.1 45 4 = σ.1 98 25 from cw.2.1.trans c.symm, h⟩))))
  · exact e_M_many (t_M_many_0 (ifn h0 (ifn h1 (ifn h2 (ifp h3 ⟨show σ.1 0 10 = σ.1 98 43 from r1.trans r2.symm, h⟩)))))
  · exact e_M_many (t_M_many_0 (ifn h0 (ifn h1 (ifn h2 (ifn h3 (ifp h4 ⟨show σ.1 1 1 = σ.1 98 4 from f1.trans f2.symm, h⟩))))))
  · exact e_M_many (t_M_many_0 (ifn h0 (ifn h1 (ifn h2 (ifn h3 (ifn h4 (ifp h5 ⟨show σ.1 88 3 = σ.1 98 54 from q1.trans q2.symm, h⟩)))))))
  · exact e_M_many (t_M_many_0 (ifn h0 (ifn h1 (ifn h2 (ifn h3 (ifn h4 (ifn h5 ⟨rfl, h⟩)))))))
theorem op_trace : O_trace Rel := by
  intro σ a1 h
  obtain ⟨k, k30, k1, k2, hk⟩ := h.2.1.2.2.2.2.2
  refine e_SS_trace (t_SS_trace_0 ?_)
  rw [k1]
  rcases ixc a1 (n := k) (by omega) with q | ⟨j, hj, rfl⟩
  · have hm : CTs 60 y_M_trace [.ref 98, .int a1] σ (fun r' σ2 => oI (some (.int (-3 : Int32))) = oI r' ∧ Rel σ2) := by
      refine e_M_trace (t_M_trace_0 ?_)
      rw [k2]
      exact p_inN q (by omega) (o0 ⟨rfl, h⟩)
    refine ite2 (fun _ => hm) (fun h1 => ifp ?_ hm)
    rcases q with q | q
    · exact absurd q h1
    · exact q
  · refine ifn (nI_pos (by omega)) (ifn (nI_ge hj (by omega)) ⟨vp_in_nI (by omega) (by omega), e_M_trace (t_M_trace_0 ?_)⟩)
    rw [k2]
    refine p_inJ hj (by omega) (o1 ⟨vp_in_nI (by omega) (by omega), ?_, h⟩)
    rw [nI_clamp (by omega)]
    exact hk j hj
/-! ===== rows ===== -/
theorem ix_2 {i w : Nat} (hi : i < 61) (hw : w < 2) : vp_in ((2 : Int32) * nI i + nI w) 122 ∧ ((2 : Int32) * nI i + nI w).toNatClampNeg = 2 * i + w := by
  have e : (2 : Int32) * nI i + nI w = nI (2 * i + w) := by rw [show (2 : Int32) = nI 2 from rfl, pk_mul, nI_add]
  rw [e]
  exact ⟨vp_in_nI (by omega) (by omega), nI_clamp (by omega)⟩
theorem p_sRow1 {d : Nat} {K : Po} {σ : Hp} {k i w : Nat} (hk : σ.1 0 10 = nI k) (h61 : k ≤ 61) (hi : i < k) (hw : w < 2) (q : K (some (.int 1)) σ) : CTs (d + 1) y_SS_isRow [.ref 0, .int (nI i), .int (nI w)] σ K := by
  refine e_SS_isRow (t_SS_isRow_0 ?_)
  rw [hk]
  refine ifn (nI_pos (by omega)) (ifn (nI_ge hi (by omega)) ?_)
  match w, hw with
  | 0, _ => exact ifp rfl ⟨vb1, q⟩
  | 1, _ => exact ifn (by decide) (ifp rfl ⟨vb1, q⟩)
theorem p_sRow0 {d : Nat} {K : Po} {σ : Hp} {k : Nat} {a b : Int32} (hk : σ.1 0 10 = nI k) (h : nIx a k ∨ nIx b 2) (q : K (some (.int 0)) σ) : CTs (d + 1) y_SS_isRow [.ref 0, .int a, .int b] σ K := by
  refine e_SS_isRow (t_SS_isRow_0 ?_)
  rw [hk]
  refine ite2 (fun _ => ⟨vb0, q⟩) (fun h1 => ite2 (fun _ => ⟨vb0, q⟩) (fun h2 => ?_))
  rcases h with (h | h) | h
  · exact absurd h h1
  · exact absurd h h2
  · refine ifn (fun e => ?_) (ifn (fun e => ?_) ⟨vb0, q⟩)
    · subst e; rcases h with h | h <;> exact absurd h (by decide)
    · subst e; rcases h with h | h <;> exact absurd h (by decide)
theorem p_mRow1 {d : Nat} {K : Po} {σ : Hp} {k i w : Nat} (hk : σ.1 98 43 = nI k) (h61 : k ≤ 61) (hi : i < k) (hw : w < 2) (q : K (some (.int 1)) σ) : CTs (d + 2) y_M_isRow [.ref 98, .int (nI i), .int (nI w)] σ K := by
  refine e_M_isRow (t_M_isRow_0 ?_)
  rw [hk]
  exact p_inJ hi (by omega) (o1 (p_inJ' (n := 2) rfl hw (by omega) (o1 ⟨vb1, q⟩)))
theorem p_mRow0 {d : Nat} {K : Po} {σ : Hp} {k : Nat} {a b : Int32} (hk : σ.1 98 43 = nI k) (h61 : k ≤ 61) (h : nIx a k ∨ nIx b 2) (q : K (some (.int 0)) σ) : CTs (d + 2) y_M_isRow [.ref 98, .int a, .int b] σ K := by
  refine e_M_isRow (t_M_isRow_0 ?_)
  rw [hk]
  rcases ixc a (n := k) (by omega) with z | ⟨j, hj, rfl⟩
  · exact p_inN z (by omega) (o0 ⟨vb0, q⟩)
  · refine p_inJ hj (by omega) (o1 ?_)
    rcases h with (h | h) | h
    · exact absurd h (nI_pos (by omega))
    · exact absurd h (nI_ge hj (by omega))
    · exact p_inN' (n := 2) rfl h (by omega) (o0 ⟨vb0, q⟩)
theorem op_row : O_row Rel := by
  intro σ a1 a2 h
  obtain ⟨k, k61, k1, k2, hk⟩ := h.2.1.2.2.1
  refine e_SS_row (t_SS_row_0 ?_)
  rcases ixc a1 (n := k) (by omega) with z | ⟨i, hi, rfl⟩
  · exact p_sRow0 k1 (Or.inl z) (o0 (e_M_row (t_M_row_0 (p_mRow0 k2 k61 (Or.inl z) (o0 ⟨rfl, h⟩)))))
  · rcases ixc a2 (n := 2) (by omega) with z | ⟨w, hw, rfl⟩
    · exact p_sRow0 k1 (Or.inr z) (o0 (e_M_row (t_M_row_0 (p_mRow0 k2 k61 (Or.inr z) (o0 ⟨rfl, h⟩)))))
    · have e := ix_2 (i := i) (w := w) (by omega) hw
      refine p_sRow1 k1 k61 hi hw (o1 ⟨e.1, e_M_row (t_M_row_0 (p_mRow1 k2 k61 hi hw (o1 ⟨e.1, ?_, h⟩)))⟩)
      rw [e.2]
      exact hk _ (by omega)
theorem op_alterRow : O_alterRow Rel := by
  intro σ a1 a2 a3 h
  obtain ⟨⟨n, now, ne, hc⟩, hr, hkp⟩ := id h
  obtain ⟨k, k61, k1, k2, hk⟩ := hr.2.2.1
  refine e_SS_alterRow (t_SS_alterRow_0 ?_)
  rcases ixc a1 (n := k) (by omega) with z | ⟨i, hi, rfl⟩
  · exact p_sRow0 k1 (Or.inl z) (o0 (e_M_alterRow (t_M_alterRow_0 (p_mRow0 k2 k61 (Or.inl z) (o0 ⟨rfl, h⟩)))))
  · rcases ixc a2 (n := 2) (by omega) with z | ⟨w, hw, rfl⟩
    · exact p_sRow0 k1 (Or.inr z) (o0 (e_M_alterRow (t_M_alterRow_0 (p_mRow0 k2 k61 (Or.inr z) (o0 ⟨rfl, h⟩)))))
    · have e := ix_2 (i := i) (w := w) (by omega) hw
      refine p_sRow1 k1 k61 hi hw (o1 ⟨e.1, e.1, e_M_alterRow (t_M_alterRow_0 (p_mRow1 k2 k61 hi hw (o1 ⟨e.1, e.1, ?_, ?_⟩)))⟩)
      · rw [e.2]
        exact hk _ (by omega)
      · rw [e.2]
        refine ⟨⟨n, now, ne, hc.same ((SameG.rf.sI rfl).sI rfl)⟩, ?_, hkp.same ((SameG.rf.sI rfl).sI rfl)⟩
        obtain ⟨g1, g2, g3, g4, g5, g6⟩ := hr
        refine ⟨g1, g2, ⟨k, k61, k1, k2, fun j hj => ?_⟩, g4, g5, g6⟩
        show upd (σ.1 81) (2 * i + w) a3 j = upd (σ.1 118) (2 * i + w) a3 j
        rw [upd_r, upd_r, hk j hj]
