/-! ===== frames, as the relation's parts see them ===== -/
theorem FrM.R {σ τ : Hp} (f : FrM σ τ) : SameR σ τ := by
  refine ⟨fun c hc => ?_, fun q hq => ?_, fun c hc => ?_, fun q hq => absurd hq (by intro h; cases h)⟩
  · obtain ⟨a1, a2, a3, a4, a5, a6⟩ := (by decide : ∀ c ∈ ([2, 101, 81, 118, 82, 83, 84, 119, 120, 85, 86, 87, 122, 123, 124, 89, 125] : List Nat), c ≠ 98 ∧ c ≠ 105 ∧ c ≠ 106 ∧ c ≠ 109 ∧ c ≠ 110 ∧ c ≠ 111) c hc
    exact f.1 c a1 a2 a3 a4 a5 a6
  · rcases (by decide : ∀ q ∈ ([(1, 1), (1, 2), (1, 3), (98, 4), (98, 10), (98, 11), (0, 10), (98, 43), (88, 3), (98, 54)] : List (Nat × Nat)), (q.1 ≠ 98 ∧ q.1 ≠ 105 ∧ q.1 ≠ 106 ∧ q.1 ≠ 109 ∧ q.1 ≠ 110 ∧ q.1 ≠ 111) ∨ (q.1 = 98 ∧ q.2 ≠ 19)) q hq with ⟨a1, a2, a3, a4, a5, a6⟩ | ⟨e1, e2⟩
    · rw [f.1 q.1 a1 a2 a3 a4 a5 a6]
    · rw [e1]; exact f.2.1 q.2 e2
  · obtain ⟨a1, a2⟩ := (by decide : ∀ c ∈ ([121] : List Nat), c ≠ 98 ∧ c ≠ 112) c hc
    exact f.2.2.1 c a1 a2
theorem FrM.K {σ τ : Hp} (f : FrM σ τ) : SameK σ τ := by
  refine ⟨fun c hc => ?_, fun q hq => ?_, fun c hc => absurd hc (by intro h; cases h), fun q hq => ?_⟩
  · obtain ⟨a1, a2, a3, a4, a5, a6⟩ := (by decide : ∀ c ∈ ([126, 80, 32, 33, 34, 35, 36, 37, 38, 39, 40, 41, 42, 43, 68, 69, 70, 71, 72, 73, 74, 75] : List Nat), c ≠ 98 ∧ c ≠ 105 ∧ c ≠ 106 ∧ c ≠ 109 ∧ c ≠ 110 ∧ c ≠ 111) c hc
    exact f.1 c a1 a2 a3 a4 a5 a6
  · rcases (by decide : ∀ q ∈ ([(0, 6), (98, 56), (31, 0), (31, 1), (67, 0), (67, 4)] : List (Nat × Nat)), (q.1 ≠ 98 ∧ q.1 ≠ 105 ∧ q.1 ≠ 106 ∧ q.1 ≠ 109 ∧ q.1 ≠ 110 ∧ q.1 ≠ 111) ∨ (q.1 = 98 ∧ q.2 ≠ 19)) q hq with ⟨a1, a2, a3, a4, a5, a6⟩ | ⟨e1, e2⟩
    · rw [f.1 q.1 a1 a2 a3 a4 a5 a6]
    · rw [e1]; exact f.2.1 q.2 e2
  · rcases (by decide : ∀ q ∈ ([(98, 59), (98, 60), (98, 61), (67, 1), (67, 2), (67, 3)] : List (Nat × Nat)), (q.1 ≠ 98 ∧ q.1 ≠ 112) ∨ (q.1 = 98 ∧ q.2 ≠ 22 ∧ q.2 ≠ 23 ∧ q.2 ≠ 24)) q hq with ⟨a1, a2⟩ | ⟨e1, e2, e3, e4⟩
    · rw [f.2.2.1 q.1 a1 a2]
    · rw [e1]; exact f.2.2.2 q.2 e2 e3 e4
theorem FrC.R {w : Nat} {σ τ : Hp} (hw : w = 45 ∨ w = 56) (f : FrC w σ τ) : SameR σ τ := by
  refine ⟨fun c hc => ?_, fun q hq => ?_, fun c hc => ?_, fun q hq => absurd hq (by intro h; cases h)⟩
  · have := (by decide : ∀ c ∈ ([2, 101, 81, 118, 82, 83, 84, 119, 120, 85, 86, 87, 122, 123, 124, 89, 125] : List Nat), c < 45 ∨ 66 < c) c hc
    exact f.1 c (by omega)
  · have := (by decide : ∀ q ∈ ([(1, 1), (1, 2), (1, 3), (98, 4), (98, 10), (98, 11), (0, 10), (98, 43), (88, 3), (98, 54)] : List (Nat × Nat)), q.1 < 45 ∨ 66 < q.1) q hq
    rw [f.1 q.1 (by omega)]
  · have := (by decide : ∀ c ∈ ([121] : List Nat), c < 45 ∨ 66 < c) c hc
    exact f.2 c (by omega) (by omega)
theorem FrC.K {w : Nat} {σ τ : Hp} (hw : w = 45 ∨ w = 56) (f : FrC w σ τ) : SameK σ τ := by
  refine ⟨fun c hc => ?_, fun q hq => ?_, fun c hc => absurd hc (by intro h; cases h), fun q hq => ?_⟩
  · have := (by decide : ∀ c ∈ ([126, 80, 32, 33, 34, 35, 36, 37, 38, 39, 40, 41, 42, 43, 68, 69, 70, 71, 72, 73, 74, 75] : List Nat), c < 45 ∨ 66 < c) c hc
    exact f.1 c (by omega)
  · have := (by decide : ∀ q ∈ ([(0, 6), (98, 56), (31, 0), (31, 1), (67, 0), (67, 4)] : List (Nat × Nat)), q.1 < 45 ∨ 66 < q.1) q hq
    rw [f.1 q.1 (by omega)]
  · have := (by decide : ∀ q ∈ ([(98, 59), (98, 60), (98, 61), (67, 1), (67, 2), (67, 3)] : List (Nat × Nat)), q.1 < 45 ∨ 66 < q.1) q hq
    rw [f.2 q.1 (by omega) (by omega)]
theorem FrC.C56 {σ τ : Hp} (f : FrC 56 σ τ) : SameC σ τ := by
  refine ⟨fun c hc => ?_, fun q hq => ?_, fun c hc => absurd hc (by intro h; cases h), fun q hq => ?_⟩
  · have := (by decide : ∀ c ∈ ([99, 100, 105, 106, 107, 108, 4, 5, 6, 7, 8, 9, 10, 11, 12, 13, 14, 15, 46, 47, 48, 49, 50, 51, 52, 53, 78] : List Nat), c < 56 ∨ 66 < c) c hc
    exact f.1 c (by omega)
  · have := (by decide : ∀ q ∈ ([(98, 0), (98, 19), (98, 25), (3, 0), (3, 1), (45, 0), (45, 4)] : List (Nat × Nat)), q.1 < 56 ∨ 66 < q.1) q hq
    rw [f.1 q.1 (by omega)]
  · have := (by decide : ∀ q ∈ ([(98, 22), (98, 23), (98, 24), (45, 1), (45, 2), (45, 3)] : List (Nat × Nat)), q.1 < 56 ∨ 66 < q.1) q hq
    rw [f.2 q.1 (by omega) (by omega)]
theorem Rel.f56 {σ τ : Hp} (h : Rel σ) (f : FrC 56 σ τ) : Rel τ := h.same f.C56 (f.R (Or.inr rfl)) (f.K (Or.inr rfl))
/-- what findValues leaves -/
def FrV (σ τ : Hp) : Prop := τ.2 = σ.2 ∧ ∀ c, c ≠ 109 → c ≠ 110 → c ≠ 111 → τ.1 c = σ.1 c
theorem FrV.M {σ τ : Hp} (f : FrV σ τ) : FrM σ τ := ⟨fun c _ _ _ a b d => f.2 c a b d, fun x _ => by rw [f.2 98 (by decide) (by decide) (by decide)], fun c _ _ => by rw [f.1], fun x _ _ _ => by rw [f.1]⟩
theorem FrV.C {σ τ : Hp} (f : FrV σ τ) : SameC σ τ := by
  refine SameG.of (fun c hc => ?_) (fun q hq => ?_) f.1
  · obtain ⟨a1, a2, a3⟩ := (by decide : ∀ c ∈ ([99, 100, 105, 106, 107, 108, 4, 5, 6, 7, 8, 9, 10, 11, 12, 13, 14, 15, 46, 47, 48, 49, 50, 51, 52, 53, 78] : List Nat), c ≠ 109 ∧ c ≠ 110 ∧ c ≠ 111) c hc
    exact f.2 c a1 a2 a3
  · obtain ⟨a1, a2, a3⟩ := (by decide : ∀ q ∈ ([(98, 0), (98, 19), (98, 25), (3, 0), (3, 1), (45, 0), (45, 4)] : List (Nat × Nat)), q.1 ≠ 109 ∧ q.1 ≠ 110 ∧ q.1 ≠ 111) q hq
    rw [f.2 q.1 a1 a2 a3]
theorem Rel.fv {σ τ : Hp} (h : Rel σ) (f : FrV σ τ) : Rel τ := h.same f.C f.M.R f.M.K
/-! ===== the core as states ===== -/
def wsOf (σ : Hp) (now : Nat) : WS := (σ.1 105, σ.1 106, now, σ.2 98 22, σ.2 98 23, σ.2 98 24)
theorem RCore.ms {σ : Hp} {n now ne : Nat} (h : RCore σ n now ne) : MS (wsOf σ now) σ := ⟨rfl, rfl, h.2.1, rfl, rfl, rfl⟩
theorem RCore.tx {σ : Hp} {n now ne : Nat} (h : RCore σ n now ne) : TxM n (σ.1 99) (σ.1 100) ne (σ.1 107) σ := ⟨h.1, rfl, rfl, h.2.2.1, rfl⟩
theorem RCore.cs {σ : Hp} {n now ne : Nat} (h : RCore σ n now ne) : CS n (σ.1 99) (σ.1 100) ne (σ.1 107) (wsOf σ now) 45 σ := ⟨h.2.2.2.1.2.2.2.1, h.2.2.2.2⟩
theorem RCore.of {σ : Hp} {n ne : Nat} {th sg ev : Nat → Int32} {s : WS} (tx : TxM n th sg ne ev σ) (ms : MS s σ) (cs : CS n th sg ne ev s 45 σ) (tw : TW n th sg) (cx : CX n th sg (fun j => σ.1 (3 + j))) (mw : MW n th s.1 ne ev) (ps : PST n s.2.2.1 (σ.1 108) (σ.1 78)) (h60 : s.2.2.1 ≤ 60) : RCore σ n s.2.2.1 ne := by
  obtain ⟨x1, x2, x3, x4, x5⟩ := tx
  obtain ⟨m1, m2, m3, m4, m5, m6⟩ := ms
  refine ⟨x1, m3, x4, ?_, ?_⟩
  · rw [x2, x3, m1, m2, x5]
    exact ⟨tw, cx, mw, cs.1, ps, h60⟩
  · rw [m4, m5, m6]; exact cs.2
/-! ===== value, at, flow, sum ===== -/
theorem op_value : O_value Rel := by
  intro σ a1 h
  obtain ⟨⟨n, now, ne, a, b, c, ⟨tw, cx, mw, cw, ps, h60⟩, wl⟩, -, -⟩ := id h
  have h16 := tw.1
  refine e_SS_value (t_SS_value_0 ?_)
  rcases ixc a1 (n := n) (by omega) with z | ⟨i, hi, rfl⟩
  · exact p_has0 (Or.inl rfl) cx.1 z (o0 (e_M_value (t_M_value_0 (p_isThing0 a h16 z (o0 ⟨rfl, h⟩)))))
  · refine p_has1 (Or.inl rfl) cx.1 h16 hi (o1 ⟨vp_in_nI (by omega) (by omega), e_M_value (t_M_value_0 (p_isThing1 a h16 hi (o1 (p_findValues a b (by omega) tw (fun τ t2 t1 tv tf => ⟨vp_in_nI (by omega) (by omega), ?_, h.fv ⟨t2, t1⟩⟩)))))⟩)
    rw [nI_clamp (n := i) (by omega)]
    show σ.1 50 i = τ.1 110 i
    rw [tv i hi]
    exact cw.2.2.2.2.1 i hi
/-- the value of a thing then -/
def wasV (σ : Hp) (n now i s : Nat) : Int32 := if s = now then vto (σ.1 99) (σ.1 100) (σ.1 105) (σ.1 106) now n i else σ.1 108 (16 * s + i)
theorem p_was {d : Nat} {K : Po} {σ : Hp} {n now i s : Nat} (hn : σ.1 98 0 = nI n) (hnow : σ.1 98 19 = nI now) (h60 : now ≤ 60) (tw : TW n (σ.1 99) (σ.1 100)) (hi : i < n) (hs : s ≤ now) (q : ∀ τ : Hp, FrV σ τ → K (some (.int (wasV σ n now i s))) τ) : CTs (d + 5) y_M_was [.ref 98, .int (nI i), .int (nI s)] σ K := by
  have h16 := tw.1
  refine e_M_was (t_M_was_0 ?_)
  rw [hnow]
  unfold wasV at q
  by_cases e : s = now
  · rw [e, if_pos rfl] at q
    refine ifp (nI_le (by omega) (by omega)) (p_findValues hn hnow (by omega) tw (fun τ t2 t1 tv tf => ⟨vp_in_nI (by omega) (by omega), ?_⟩))
    rw [nI_clamp (n := i) (by omega), tv i hi]
    exact q τ ⟨t2, t1⟩
  · rw [if_neg e] at q
    have e1 : (16 : Int32) * nI s + nI i = nI (16 * s + i) := by rw [show (16 : Int32) = nI 16 from rfl, pk_mul, nI_add]
    rw [e1, nI_clamp (n := 16 * s + i) (by omega)]
    exact ifn (nI_ge (by omega) (by omega)) ⟨vp_in_nI (by omega) (by omega), q σ ⟨rfl, fun _ _ _ _ => rfl⟩⟩
theorem p_then {d : Nat} {K : Po} {σ : Hp} {n now i s : Nat} (h16 : n ≤ 16) (hnow : σ.1 45 0 = nI now) (h60 : now ≤ 60) (hi : i < n) (hs : s ≤ now) (hv : ∀ i, i < n → σ.1 50 i = vto (σ.1 99) (σ.1 100) (σ.1 105) (σ.1 106) now n i) (ps : PST n now (σ.1 108) (σ.1 78)) (q : K (some (.int (wasV σ n now i s))) σ) : CTs (d + 1) y_SS_valueThen [.ref 0, .int (nI i), .int (nI s)] σ K := by
  refine e_SS_valueThen (t_SS_valueThen_0 ?_)
  rw [hnow]
  unfold wasV at q
  by_cases e : s = now
  · rw [if_pos e, ← hv i hi] at q
    refine ifp (by rw [e]) ⟨vp_in_nI (by omega) (by omega), ?_⟩
    rw [nI_clamp (by omega)]
    exact q
  · rw [if_neg e, ← ps s i (by omega) hi] at q
    have e1 : nI s * (16 : Int32) + nI i = nI (16 * s + i) := by rw [show (16 : Int32) = nI 16 from rfl, pk_mul, nI_add, Nat.mul_comm]
    rw [e1, nI_clamp (n := 16 * s + i) (by omega)]
    exact ifn (fun z => e ((nI_eq (by omega) (by omega)).mp z)) ⟨vp_in_nI (by omega) (by omega), q⟩
theorem op_at : O_at Rel := by
  intro σ a1 a2 h
  obtain ⟨⟨n, now, ne, a, b, c, ⟨tw, cx, mw, cw, ps, h60⟩, wl⟩, -, -⟩ := id h
  have h16 := tw.1
  have hnow : σ.1 45 0 = nI now := cw.1
  refine e_SS_at (t_SS_at_0 ?_)
  rcases ixc a1 (n := n) (by omega) with z | ⟨i, hi, rfl⟩
  · exact p_has0 (Or.inl rfl) cx.1 z (o0 (e_M_at (t_M_at_0 (p_isThing0 a h16 z (o0 ⟨rfl, h⟩)))))
  refine p_has1 (Or.inl rfl) cx.1 h16 hi (o1 ?_)
  rw [hnow]
  have mgo : ∀ (r : Int32), (a2 < 0 ∨ nI now < a2 → r = -2147483648) → (∀ s, s ≤ now → a2 = nI s → r = wasV σ n now i s) → CTs 60 y_M_at [.ref 98, .int (nI i), .int a2] σ (fun r' σ2 => oI (some (.int r)) = oI r' ∧ Rel σ2) := by
    intro r r1 r2
    refine e_M_at (t_M_at_0 (p_isThing1 a h16 hi (o1 ?_)))
    rw [b]
    by_cases h0 : a2 < 0 ∨ nI now < a2
    · exact p_in0 h0 (o0 ⟨r1 h0, h⟩)
    · have h1 : ¬ a2 < 0 := fun z => h0 (Or.inl z)
      have h2 : ¬ nI now < a2 := fun z => h0 (Or.inr z)
      obtain ⟨s, hs, es⟩ := nI_of2 (M := nI now) (n := now) (nI_toInt (by omega)) h1 (Int32.not_lt.mp h2)
      refine p_in1 h1 h2 (o1 ?_)
      rw [es]
      exact p_was a b h60 tw hi hs (fun τ f => ⟨r2 s hs es, h.fv f⟩)
  refine ite2 (fun h0 => mgo _ (fun _ => rfl) (fun s hs es => absurd h0 (by rw [es]; exact nI_pos (by omega)))) (fun h0 => ite2 (fun h1 => mgo _ (fun _ => rfl) (fun s hs es => absurd h1 (by rw [es]; exact nI_nlt hs (by omega)))) (fun h1 => ?_))
  obtain ⟨s, hs, es⟩ := nI_of2 (M := nI now) (n := now) (nI_toInt (by omega)) h0 (Int32.not_lt.mp h1)
  rw [es]
  refine p_then h16 hnow h60 hi hs cw.2.2.2.2.1 ps ?_
  rw [← es]
  exact mgo _ (fun z => absurd z (fun z => z.elim h0 h1)) (fun s' hs' es' => by rw [(nI_eq (by omega) (by omega)).mp (es.symm.trans es')]; rfl)
theorem op_flow : O_flow Rel := by
  intro σ a1 a2 h
  obtain ⟨⟨n, now, ne, a, b, c, ⟨tw, cx, mw, cw, ps, h60⟩, wl⟩, -, -⟩ := id h
  have h16 := tw.1
  refine e_SS_flow (t_SS_flow_0 ?_)
  rcases ixc a1 (n := n) (by omega) with z | ⟨i, hi, rfl⟩
  · exact p_has0 (Or.inl rfl) cx.1 z (o0 (e_M_flow (t_M_flow_0 (p_isThing0 a h16 z (o0 ⟨rfl, h⟩)))))
  refine p_has1 (Or.inl rfl) cx.1 h16 hi (o1 ?_)
  have hvi : vp_in (nI i) 16 := vp_in_nI (by omega) (by omega)
  rw [nI_clamp (n := i) (by omega)]
  rcases ixc a2 (n := 2) (by omega) with z | ⟨w, hw, rfl⟩
  · have hm : CTs 60 y_M_flow [.ref 98, .int (nI i), .int a2] σ (fun r' σ2 => oI (some (.int (-1 : Int32))) = oI r' ∧ Rel σ2) := e_M_flow (t_M_flow_0 (p_isThing1 a h16 hi (o1 (p_inN' (n := 2) rfl z (by omega) (o0 ⟨rfl, h⟩)))))
    refine ite2 (fun _ => hm) (fun h1 => ifn ?_ hm)
    rcases z with z | z
    · exact absurd z h1
    · intro y
      exact absurd (Int32.le_trans z y) (by decide)
  refine ifn (nI_pos (by omega)) (ifp (nI_le (b := 1) (by omega) (by omega)) ⟨hvi, ?_⟩)
  rw [show σ.1 4 i = σ.1 99 (20 * i) from cx.k hi]
  refine ite2 (fun e3 => ?_) (fun e3 => ?_)
  · have vn := vto_VN (now := now) (mem := σ.1 106) tw mw.1
    have f50 : σ.1 50 i = _ := cw.2.2.2.2.1 i hi
    have f51 : σ.1 51 i = _ := cw.2.2.2.2.2.1 i hi e3
    match w, hw with
    | 0, _ =>
      refine ifp rfl ⟨hvi, e_M_flow (t_M_flow_0 (p_isThing1 a h16 hi (o1 (p_inJ' (n := 2) rfl (by omega) (by omega) (o1 (p_of (w := 0) (by omega) (by omega) (ifp e3 (p_findValues a b (by omega) tw (fun τ t2 t1 tv tf => ifp rfl (p_flowOf (n := n) h16 (by rw [t1 98 (by decide) (by decide) (by decide)]; exact a) (t1 99 (by decide) (by decide) (by decide)) tv vn tw.e4 hi e3 ⟨f51, h.fv ⟨t2, t1⟩⟩)))))))))) ⟩
    | 1, _ =>
      refine ifn (by decide) ⟨hvi, hvi, e_M_flow (t_M_flow_0 (p_isThing1 a h16 hi (o1 (p_inJ' (n := 2) rfl (by omega) (by omega) (o1 (p_of (w := 0) (by omega) (by omega) (ifp e3 (p_findValues a b (by omega) tw (fun τ t2 t1 tv tf => ifn (by decide) ⟨hvi, p_flowOf (n := n) h16 (by rw [t1 98 (by decide) (by decide) (by decide)]; exact a) (t1 99 (by decide) (by decide) (by decide)) tv vn tw.e4 hi e3 ⟨?_, h.fv ⟨t2, t1⟩⟩⟩)))))))))⟩
      rw [nI_clamp (n := i) (by omega)]
      show σ.1 50 i - σ.1 51 i = τ.1 110 i - _
      rw [tv i hi, f50, f51]
      rfl
  · have hj : ∀ w, w < 2 → CTs 60 y_M_flow [.ref 98, .int (nI i), .int (nI w)] σ (fun r' σ2 => oI (some (.int (-13 : Int32))) = oI r' ∧ Rel σ2) := fun w hw => e_M_flow (t_M_flow_0 (p_isThing1 a h16 hi (o1 (p_inJ' (n := 2) rfl hw (by omega) (o1 (p_of (w := 0) (by omega) (by omega) (ifn e3 ⟨rfl, h⟩)))))))
    exact hj w hw
def sumF (th am : Nat → Int32) (i : Nat) : Int64 := if th (20 * i) = 1 then (am i).toInt64 else 0
theorem p_msum {d : Nat} {K : Po} {σ : Hp} {n : Nat} {a1 : Int32} (h16 : n ≤ 16) (hn : σ.1 98 0 = nI n) (q : K (some (.long (if a1 = 0 then sm n (sumF (σ.1 99) (σ.1 105)) else if a1 = 1 then σ.2 98 22 else if a1 = 2 then σ.2 98 23 else if a1 = 3 then σ.2 98 24 else -1))) σ) : CTs (d + 2) y_M_sum [.ref 98, .int a1] σ K := by
  refine e_M_sum (t_M_sum_0 ?_)
  have key : ∀ c k, k + c = n → WP c_M_sum (CTs (d + 1)) K (5, [(0, .ref 98), (1, .int a1), (2, .long (sm k (sumF (σ.1 99) (σ.1 105)))), (4, .int (nI k))], []) σ := by
    intro c
    induction c with
    | zero =>
      intro k hk
      have ek : k = n := by omega
      rw [ek]
      refine t_M_sum_5 ?_
      rw [hn]
      refine ifp (Int32.le_refl _) (ite2 (fun e0 => ?_) (fun e0 => ite2 (fun e1 => ?_) (fun e1 => ite2 (fun e2 => ?_) (fun e2 => ite2 (fun e3 => ?_) (fun e3 => ?_)))))
      · rw [if_pos e0] at q; exact q
      · rw [if_neg e0, if_pos e1] at q; exact q
      · rw [if_neg e0, if_neg e1, if_pos e2] at q; exact q
      · rw [if_neg e0, if_neg e1, if_neg e2, if_pos e3] at q; exact q
      · rw [if_neg e0, if_neg e1, if_neg e2, if_neg e3] at q; exact q
    | succ c ih =>
      intro k hk
      refine t_M_sum_5 ?_
      rw [hn, nI_1, nI_clamp (n := k) (by omega)]
      have hs : sm (k + 1) (sumF (σ.1 99) (σ.1 105)) = sm k (sumF (σ.1 99) (σ.1 105)) + (if σ.1 99 (20 * k) = 1 then (σ.1 105 k).toInt64 else 0) := rfl
      have := ih (k + 1) (by omega)
      rw [hs] at this
      refine ifn (nI_ge (by omega) (by omega)) (p_of (w := 0) (by omega) (by omega) (ite2 (fun e => ⟨vp_in_nI (by omega) (by omega), ?_⟩) (fun e => ?_)))
      · rw [if_pos (show σ.1 99 (20 * k) = 1 from e)] at this; exact this
      · rw [if_neg (show ¬ σ.1 99 (20 * k) = 1 from e)] at this; exact this
  exact key n 0 (by omega)
theorem p_stored {d : Nat} {K : Po} {σ : Hp} {n : Nat} {th am : Nat → Int32} (h16 : n ≤ 16) (hn : σ.1 3 0 = nI n) (hk : ∀ i, i < n → σ.1 4 i = th (20 * i)) (hA : ∀ i, i < n → th (20 * i) = 1 → σ.1 49 i = am i) (q : K (some (.long (sm n (sumF th am)))) σ) : CTs (d + 1) y_Wo_stored [.ref 45, .ref 3] σ K := by
  refine e_Wo_stored rfl (t_Wo_stored_0 rfl ?_)
  have key : ∀ c k, k + c = n → WP c_Wo_stored (CTs d) K (5, [(0, .ref 45), (1, .ref 3), (2, .long (sm k (sumF th am))), (4, .int (nI k))], []) σ := by
    intro c
    induction c with
    | zero =>
      intro k hkn
      have ek : k = n := by omega
      rw [ek]
      refine t_Wo_stored_5 rfl ?_
      rw [hn]
      exact ifp (Int32.le_refl _) q
    | succ c ih =>
      intro k hkn
      refine t_Wo_stored_5 rfl ?_
      rw [hn, nI_1, nI_clamp (n := k) (by omega), hk k (by omega)]
      have hs : sm (k + 1) (sumF th am) = sm k (sumF th am) + (if th (20 * k) = 1 then (am k).toInt64 else 0) := rfl
      have := ih (k + 1) (by omega)
      rw [hs] at this
      have hv : vp_in (nI k) 16 := vp_in_nI (by omega) (by omega)
      refine ifn (nI_ge (by omega) (by omega)) ⟨hv, ite2 (fun e => ⟨hv, ?_⟩) (fun e => ?_)⟩
      · rw [if_pos e, ← hA k (by omega) e] at this; exact this
      · rw [if_neg e, Int64.add_zero] at this; exact this
  exact key n 0 (by omega)
theorem op_sum : O_sum Rel := by
  intro σ a1 h
  obtain ⟨⟨n, now, ne, a, b, c, ⟨tw, cx, mw, cw, ps, h60⟩, wl1, wl2, wl3⟩, -, -⟩ := id h
  have h16 := tw.1
  refine e_SS_sum (t_SS_sum_0 (ite2 (fun e0 => ?_) (fun e0 => ite2 (fun e1 => ?_) (fun e1 => ite2 (fun e2 => ?_) (fun e2 => ite2 (fun e3 => ?_) (fun e3 => ?_))))))
  · refine p_stored (n := n) (th := σ.1 99) (am := σ.1 105) h16 cx.1 (fun i hi => cx.k hi) (fun i hi e => cw.2.2.2.1 i hi (Or.inl e)) (p_msum h16 a ⟨?_, h⟩)
    rw [if_pos e0]; rfl
  · refine p_msum h16 a ⟨?_, h⟩
    rw [if_neg e0, if_pos e1]; exact wl1
  · refine p_msum h16 a ⟨?_, h⟩
    rw [if_neg e0, if_neg e1, if_pos e2]; exact wl2
  · refine p_msum h16 a ⟨?_, h⟩
    rw [if_neg e0, if_neg e1, if_neg e2, if_pos e3]; exact wl3
  · refine p_msum h16 a ⟨?_, h⟩
    rw [if_neg e0, if_neg e1, if_neg e2, if_neg e3]
