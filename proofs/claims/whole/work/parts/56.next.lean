/-! ===== next, advance ===== -/
theorem vl_step {b : Nat → Nat} {base no st k most : Nat} (h : k < most) : vl b base no st (min most (k + 1)) = vl b base no st (min most k) * base + (b (st + k) - no) := by
  rw [show min most (k + 1) = k + 1 by omega, show min most k = k by omega]; rfl
theorem run_s {b : Nat → Nat} {m s p : Nat} (hp : p < m) (h : srtB b m p = s) : run b m s (m - p) p = run b m s (m - (p + 1)) (p + 1) := by
  obtain ⟨c, hc⟩ : ∃ c, m - p = c + 1 := ⟨m - p - 1, by omega⟩
  rw [hc, show m - (p + 1) = c by omega]
  show (if srtB b m p = s then run b m s c (p + 1) else p) = _
  rw [if_pos h]
theorem run_n {b : Nat → Nat} {m s p : Nat} (h : ¬ srtB b m p = s) : run b m s (m - p) p = p := by
  cases hc : m - p with
  | zero => rfl
  | succ c =>
    show (if srtB b m p = s then run b m s c (p + 1) else p) = _
    rw [if_neg h]
theorem skp_s {b : Nat → Nat} {m p : Nat} (hp : p < m) (h : b p = 32) : skp b m (m - p) p = skp b m (m - (p + 1)) (p + 1) := by
  obtain ⟨c, hc⟩ : ∃ c, m - p = c + 1 := ⟨m - p - 1, by omega⟩
  rw [hc, show m - (p + 1) = c by omega]
  show (if p < m ∧ b p = 32 then skp b m c (p + 1) else p) = _
  rw [if_pos ⟨hp, h⟩]
theorem skp_n {b : Nat → Nat} {m p : Nat} (h : ¬ (p < m ∧ b p = 32)) : skp b m (m - p) p = p := by
  cases hc : m - p with
  | zero => rfl
  | succ c =>
    show (if p < m ∧ b p = 32 then skp b m c (p + 1) else p) = _
    rw [if_neg h]
theorem tkA_s {b : Nat → Nat} {m p : Nat} (hp : p < m) (h : b p = 32) : tkA b m p = tkA b m (p + 1) := by
  unfold tkA
  rw [skp_s hp h]
theorem tkA_n {b : Nat → Nat} {m p : Nat} (h : ¬ (p < m ∧ b p = 32)) : tkA b m p = (srtB b m p, p, if srtB b m p = 0 then p else if srtB b m p = 3 then p + 1 else run b m (srtB b m p) (m - p) p) := by
  unfold tkA
  rw [skp_n h]
theorem k148 {d : Nat} {K : Po} {σ : Hp} {b : Nat → Nat} {m st s most base no : Nat} (tp : TpC b m σ) (hs : s = 1 ∨ s = 2) (h6 : most < 100) (hno : ∀ i, srtB b m i = s → no ≤ b i) (q : ∀ τ : Hp, FrS σ τ → τ.1 1 5 = nI (run b m s (m - st) st) → τ.1 1 6 = nI s → τ.1 1 7 = nI st → τ.1 1 8 = nI (run b m s (m - st) st - st) → τ.1 1 9 = nI (vl b base no st (min most (run b m s (m - st) st - st))) → K (some (.int 1)) τ) : ∀ (c k : Nat) (τ : Hp), st + k + c = m → FrS σ τ → run b m s (m - (st + k)) (st + k) = run b m s (m - st) st → τ.1 1 5 = nI (st + k) → τ.1 1 6 = nI s → τ.1 1 7 = nI st → τ.1 1 8 = nI k → τ.1 1 9 = nI (vl b base no st (min most k)) → WP c_Sc_next (CTs (d + 1)) K (148, [(0, .ref 1), (1, .int (nI most)), (2, .int (nI base)), (3, .int (nI no))], []) τ := by
  intro c
  have hm3 := tp.1
  induction c with
  | zero =>
    intro k τ hk f er t5 t6 t7 t8 t9
    have tpt := tp.fr f
    have e : run b m s (m - (st + k)) (st + k) = st + k := by rw [show m - (st + k) = 0 by omega]; rfl
    rw [e] at er
    refine t_Sc_next_148 ?_
    rw [tpt.2.1, t5]
    refine ifp (nI_le (by omega) (by omega)) ⟨vb1, q τ f (by rw [← er]; exact t5) t6 t7 (by rw [← er, show st + k - st = k by omega]; exact t8) (by rw [← er, show st + k - st = k by omega]; exact t9)⟩
  | succ c ih =>
    intro k τ hk f er t5 t6 t7 t8 t9
    have tpt := tp.fr f
    have hlt : st + k < m := by omega
    obtain ⟨eb, hb⟩ := tpt.2.2 (st + k) hlt
    refine t_Sc_next_148 ?_
    rw [tpt.2.1, t5]
    refine ifn (nI_ge (by omega) (by omega)) (p_sortAt tpt (by omega) ?_)
    rw [t5, t6, t8, t9, nI_clamp (n := st + k) (by omega), eb, nI_1 k, nI_1 (st + k)]
    have hsr := srtB_le (b := b) (m := m) (p := st + k)
    by_cases e : srtB b m (st + k) = s
    · have er' : run b m s (m - (st + (k + 1))) (st + (k + 1)) = run b m s (m - st) st := by rw [← er, run_s hlt e]; rfl
      refine ifp (by show nI (srtB b m (st + k)) = nI s; rw [e]) ?_
      by_cases hk6 : k < most
      · have hnob := hno (st + k) e
        have ea : nI (vl b base no st (min most k)) * nI base + nI (b (st + k)) - nI no = nI (vl b base no st (min most (k + 1))) := by
          rw [pk_mul, nI_add, pk_sub (by omega), vl_step hk6]
          congr 1
          omega
        rw [ea]
        refine ifn (nI_nlt (by omega) (by omega)) ⟨vp_in_nI (by omega) (by omega), ?_⟩
        refine ih (k + 1) _ (by omega) (((f.tr (FrS.s (by omega))).tr (FrS.s (by omega))).tr (FrS.s (by omega))) er' ?_ ?_ ?_ ?_ ?_
        · rw [sI_r, if_pos rfl, pk_us]; rfl
        · rw [sI_r, if_pos rfl, upd_r, if_neg (by decide), sI_r, if_pos rfl, upd_r, if_neg (by decide), sI_r, if_pos rfl, upd_r, if_neg (by decide)]; exact t6
        · rw [sI_r, if_pos rfl, upd_r, if_neg (by decide), sI_r, if_pos rfl, upd_r, if_neg (by decide), sI_r, if_pos rfl, upd_r, if_neg (by decide)]; exact t7
        · rw [sI_r, if_pos rfl, upd_r, if_neg (by decide), sI_r, if_pos rfl, upd_r, if_neg (by decide), sI_r, if_pos rfl, pk_us]
        · rw [sI_r, if_pos rfl, upd_r, if_neg (by decide), sI_r, if_pos rfl, pk_us]
      · refine ifp (nI_lt (by omega) (by omega)) ?_
        refine ih (k + 1) _ (by omega) ((f.tr (FrS.s (by omega))).tr (FrS.s (by omega))) er' ?_ ?_ ?_ ?_ ?_
        · rw [sI_r, if_pos rfl, pk_us]; rfl
        · rw [sI_r, if_pos rfl, upd_r, if_neg (by decide), sI_r, if_pos rfl, upd_r, if_neg (by decide)]; exact t6
        · rw [sI_r, if_pos rfl, upd_r, if_neg (by decide), sI_r, if_pos rfl, upd_r, if_neg (by decide)]; exact t7
        · rw [sI_r, if_pos rfl, upd_r, if_neg (by decide), sI_r, if_pos rfl, pk_us]
        · rw [sI_r, if_pos rfl, upd_r, if_neg (by decide), sI_r, if_pos rfl, upd_r, if_neg (by decide), t9, show min most (k + 1) = min most k by omega]
    · rw [run_n e] at er
      refine ifn (fun z => e ((nI_eq (by omega) (by omega)).mp z)) ⟨vb1, q τ f (by rw [← er]; exact t5) t6 t7 (by rw [← er, show st + k - st = k by omega]; exact t8) (by rw [← er, show st + k - st = k by omega]; exact t9)⟩
set_option maxHeartbeats 1000000 in
theorem p_next {d : Nat} {K : Po} {b : Nat → Nat} {m : Nat} : ∀ (c p : Nat) (σ : Hp), p + c = m → TpC b m σ → σ.1 1 5 = nI p → (∀ τ : Hp, FrS σ τ → CTk b (tkA b m p) τ → K (some (.int 1)) τ) → CTs (d + 2) y_Sc_next [.ref 1] σ K := by
  intro c p σ hpc tp h5 q
  refine e_Sc_next ?_
  have key : ∀ (c p : Nat) (σ : Hp), p + c = m → TpC b m σ → σ.1 1 5 = nI p → (∀ τ : Hp, FrS σ τ → CTk b (tkA b m p) τ → K (some (.int 1)) τ) → WP c_Sc_next (CTs (d + 1)) K (0, [(0, .ref 1)], []) σ := by
    intro c
    induction c with
    | zero =>
      intro p σ hpc tp h5 q
      have hm3 := tp.1
      have hn : ¬ (p < m ∧ b p = 32) := fun z => absurd z.1 (by omega)
      have hsr : srtB b m p = 0 := srtB_0.mpr (by omega)
      rw [tkA_n hn, hsr, if_pos rfl] at q
      have tp2 : TpC b m (sI σ 1 7 (nI p)) := tp.fr (FrS.s (by omega))
      refine t_Sc_next_0 ?_
      rw [tp.2.1, h5]
      refine ifp (nI_le (by omega) (by omega)) (p_sortAt tp2 (by omega) ?_)
      rw [hsr]
      refine ifn (by decide) (ifn (by decide) (ifn (by decide) (ifn (by decide) (t_Sc_next_148 ?_))))
      generalize hS : sI (sI (sI (sI σ 1 7 (nI p)) 1 6 (oI (some (.int (nI 0))))) 1 8 (0 : Int32)) 1 9 (0 : Int32) = S
      have fS : FrS σ S := by rw [← hS]; exact (((FrS.s (by omega)).tr (FrS.s (by omega))).tr (FrS.s (by omega))).tr (FrS.s (by omega))
      have S5 : S.1 1 5 = nI p := by rw [← hS, sI_r, if_pos rfl, upd_r, if_neg (by decide), sI_r, if_pos rfl, upd_r, if_neg (by decide), sI_r, if_pos rfl, upd_r, if_neg (by decide), sI_r, if_pos rfl, upd_r, if_neg (by decide)]; exact h5
      have S6 : S.1 1 6 = nI 0 := by rw [← hS, sI_r, if_pos rfl, upd_r, if_neg (by decide), sI_r, if_pos rfl, upd_r, if_neg (by decide), sI_r, if_pos rfl, pk_us]; rfl
      have S7 : S.1 1 7 = nI p := by rw [← hS, sI_r, if_pos rfl, upd_r, if_neg (by decide), sI_r, if_pos rfl, upd_r, if_neg (by decide), sI_r, if_pos rfl, upd_r, if_neg (by decide), sI_r, if_pos rfl, pk_us]
      rw [(tp.fr fS).2.1, S5]
      exact ifp (nI_le (by omega) (by omega)) ⟨vb1, q S fS ⟨S5, S6, S7, (fun z => by cases z), (fun z => by cases z), (fun z => by cases z)⟩⟩
    | succ c ih =>
      intro p σ hpc tp h5 q
      have hm3 := tp.1
      have hlt : p < m := by omega
      obtain ⟨eb, hb⟩ := tp.2.2 p hlt
      refine t_Sc_next_0 ?_
      rw [tp.2.1, h5, nI_clamp (n := p) (by omega), eb, nI_1 p]
      refine ifn (nI_ge (by omega) (by omega)) ⟨vp_in_nI (by omega) (by omega), ?_⟩
      by_cases e32 : b p = 32
      · rw [tkA_s hlt e32] at q
        refine ifp (by rw [e32]; rfl) (ih (p + 1) _ (by omega) (tp.fr (FrS.s (by omega))) (by rw [sI_r, if_pos rfl, pk_us]) (fun τ f ct => q τ ((FrS.s (by omega)).tr f) ct))
      · have hn : ¬ (p < m ∧ b p = 32) := fun z => e32 z.2
        have tp2 : TpC b m (sI σ 1 7 (nI p)) := tp.fr (FrS.s (by omega))
        have a5 : (sI σ 1 7 (nI p)).1 1 5 = nI p := by rw [sI_r, if_pos rfl, upd_r, if_neg (by decide)]; exact h5
        have a2 : (sI σ 1 7 (nI p)).1 2 p = nI (b p) := by rw [sI_r, if_neg (by decide)]; exact eb
        refine ifn (fun z => e32 ((nI_eq (b := 32) (by omega) (by omega)).mp z)) (p_sortAt tp2 (by omega) ?_)
        rw [a5, nI_clamp (n := p) (by omega), a2, nI_1 p]
        rw [tkA_n hn] at q
        have h0 : ¬ srtB b m p = 0 := fun z => absurd (srtB_0.mp z) (by omega)
        rw [if_neg h0] at q
        obtain e | e | e : srtB b m p = 1 ∨ srtB b m p = 2 ∨ srtB b m p = 3 := by have := srtB_le (b := b) (m := m) (p := p); omega
        · rw [e, if_neg (by decide)] at q
          rw [e]
          refine ifn (by decide) (ifp rfl (ifp rfl (ifp rfl ?_)))
          refine k148 (σ := σ) (b := b) (m := m) (st := p) (s := 1) (most := 6) (base := 27) (no := 96) tp (Or.inl rfl) (by omega) (fun i hi => by have := srt1 hi; omega) (fun τ f t5 t6 t7 t8 t9 => q τ f ⟨t5, t6, t7, fun _ => ⟨t8, t9⟩, (fun z => by cases z), (fun z => by cases z)⟩) (m - p) 0 _ (by omega) ((((FrS.s (by omega)).tr (FrS.s (by omega))).tr (FrS.s (by omega))).tr (FrS.s (by omega))) rfl ?_ ?_ ?_ ?_ ?_
          · rw [sI_r, if_pos rfl, upd_r, if_neg (by decide), sI_r, if_pos rfl, upd_r, if_neg (by decide), sI_r, if_pos rfl, upd_r, if_neg (by decide)]; exact a5
          · rw [sI_r, if_pos rfl, upd_r, if_neg (by decide), sI_r, if_pos rfl, upd_r, if_neg (by decide), sI_r, if_pos rfl, pk_us]; rfl
          · rw [sI_r, if_pos rfl, upd_r, if_neg (by decide), sI_r, if_pos rfl, upd_r, if_neg (by decide), sI_r, if_pos rfl, upd_r, if_neg (by decide), sI_r, if_pos rfl, pk_us]
          · rw [sI_r, if_pos rfl, upd_r, if_neg (by decide), sI_r, if_pos rfl, pk_us]; rfl
          · rw [sI_r, if_pos rfl, pk_us]; rfl
        · rw [e, if_neg (by decide)] at q
          rw [e]
          refine ifn (by decide) (ifn (by decide) (ifn (by decide) (ifn (by decide) ?_)))
          refine k148 (σ := σ) (b := b) (m := m) (st := p) (s := 2) (most := 5) (base := 10) (no := 48) tp (Or.inr rfl) (by omega) (fun i hi => by have := srt2 hi; omega) (fun τ f t5 t6 t7 t8 t9 => q τ f ⟨t5, t6, t7, (fun z => by cases z), fun _ => ⟨t8, t9⟩, (fun z => by cases z)⟩) (m - p) 0 _ (by omega) ((((FrS.s (by omega)).tr (FrS.s (by omega))).tr (FrS.s (by omega))).tr (FrS.s (by omega))) rfl ?_ ?_ ?_ ?_ ?_
          · rw [sI_r, if_pos rfl, upd_r, if_neg (by decide), sI_r, if_pos rfl, upd_r, if_neg (by decide), sI_r, if_pos rfl, upd_r, if_neg (by decide)]; exact a5
          · rw [sI_r, if_pos rfl, upd_r, if_neg (by decide), sI_r, if_pos rfl, upd_r, if_neg (by decide), sI_r, if_pos rfl, pk_us]; rfl
          · rw [sI_r, if_pos rfl, upd_r, if_neg (by decide), sI_r, if_pos rfl, upd_r, if_neg (by decide), sI_r, if_pos rfl, upd_r, if_neg (by decide), sI_r, if_pos rfl, pk_us]
          · rw [sI_r, if_pos rfl, upd_r, if_neg (by decide), sI_r, if_pos rfl, pk_us]; rfl
          · rw [sI_r, if_pos rfl, pk_us]; rfl
        · rw [e, if_pos rfl] at q
          rw [e]
          refine ifp rfl ⟨vp_in_nI (by omega) (by omega), vb1, q _ (((((((FrS.s (by omega)).tr (FrS.s (by omega))).tr (FrS.s (by omega))).tr (FrS.s (by omega))).tr (FrS.s (by omega))).tr (FrS.s (by omega)))) ⟨?_, ?_, ?_, (fun z => by cases z), (fun z => by cases z), fun _ => ?_⟩⟩
          · rw [sI_r, if_pos rfl, pk_us]
          · rw [sI_r, if_pos rfl, upd_r, if_neg (by decide), sI_r, if_pos rfl, upd_r, if_neg (by decide), sI_r, if_pos rfl, upd_r, if_neg (by decide), sI_r, if_pos rfl, upd_r, if_neg (by decide), sI_r, if_pos rfl, pk_us]; rfl
          · rw [sI_r, if_pos rfl, upd_r, if_neg (by decide), sI_r, if_pos rfl, upd_r, if_neg (by decide), sI_r, if_pos rfl, upd_r, if_neg (by decide), sI_r, if_pos rfl, upd_r, if_neg (by decide), sI_r, if_pos rfl, upd_r, if_neg (by decide), sI_r, if_pos rfl, pk_us]
          · rw [sI_r, if_pos rfl, upd_r, if_neg (by decide), sI_r, if_pos rfl, pk_us]
  exact key c p σ hpc tp h5 q
/-- from a token to the next -/
theorem p_nx {d : Nat} {K : Po} {b : Nat → Nat} {m j : Nat} {σ : Hp} (tp : TpC b m σ) (ct : CTk b (tk b m j) σ) (q : ∀ τ : Hp, FrS σ τ → CTk b (tk b m (j + 1)) τ → K (some (.int 1)) τ) : CTs (d + 2) y_Sc_next [.ref 1] σ K := by
  have ok := tk_ok (b := b) (m := m) j
  exact p_next (m - (tk b m j).2.2) (tk b m j).2.2 σ (by omega) tp ct.1 q
/-! ===== the model's advance ===== -/
def TpM (b : Nat → Nat) (m : Nat) (σ : Hp) : Prop := m ≤ 300 ∧ σ.1 98 4 = nI m ∧ ∀ k, k < m → σ.1 101 k = nI (b k) ∧ b k < 256
def FrT (σ τ : Hp) : Prop := (∀ c, c ≠ 98 → τ.1 c = σ.1 c) ∧ (∀ x, x ≠ 5 → x ≠ 6 → x ≠ 7 → x ≠ 9 → τ.1 98 x = σ.1 98 x) ∧ (∀ c, c ≠ 98 → τ.2 c = σ.2 c) ∧ ∀ x, x ≠ 8 → τ.2 98 x = σ.2 98 x
theorem FrT.rf {σ : Hp} : FrT σ σ := ⟨fun _ _ => rfl, fun _ _ _ _ _ => rfl, fun _ _ => rfl, fun _ _ => rfl⟩
theorem FrT.tr {σ τ u : Hp} (h1 : FrT σ τ) (h2 : FrT τ u) : FrT σ u := ⟨fun c a => (h2.1 c a).trans (h1.1 c a), fun x a b c d => (h2.2.1 x a b c d).trans (h1.2.1 x a b c d), fun c a => (h2.2.2.1 c a).trans (h1.2.2.1 c a), fun x a => (h2.2.2.2 x a).trans (h1.2.2.2 x a)⟩
theorem TpM.fr {b : Nat → Nat} {m : Nat} {σ τ : Hp} (h : TpM b m σ) (f : FrT σ τ) : TpM b m τ := ⟨h.1, (f.2.1 4 (by decide) (by decide) (by decide) (by decide)).trans h.2.1, fun k hk => by rw [f.1 101 (by decide)]; exact h.2.2 k hk⟩
theorem FrT.s {σ : Hp} {x : Nat} {v : Int32} (h : x = 5 ∨ x = 6 ∨ x = 7 ∨ x = 9) : FrT σ (sI σ 98 x v) := ⟨fun c hc => by rw [sI_r, if_neg hc], fun y h1 h2 h3 h4 => by rw [sI_r, if_pos rfl, upd_r, if_neg (by omega)], fun _ _ => rfl, fun _ _ => rfl⟩
theorem FrT.l {σ : Hp} {v : Int64} : FrT σ (sL σ 98 8 v) := ⟨fun _ _ => rfl, fun _ _ _ _ _ => rfl, fun c hc => by rw [sL_l, if_neg hc], fun x hx => by rw [sL_l, if_pos rfl, updL_r, if_neg hx]⟩
def MTk (b : Nat → Nat) (t : Tok) (σ : Hp) : Prop := σ.1 98 5 = nI t.1 ∧ σ.1 98 6 = nI t.2.1 ∧ σ.1 98 7 = nI t.2.2 ∧ (t.1 = 1 → σ.2 98 8 = if t.2.2 - t.2.1 ≤ 6 then lN (wv b t) else -1) ∧ (t.1 = 2 → σ.1 98 9 = if t.2.2 - t.2.1 ≤ 5 then nI (dv b t) else -1) ∧ (t.1 = 3 → σ.1 98 9 = nI (b t.2.1))
theorem p_byteAt {d : Nat} {K : Po} {σ : Hp} {b : Nat → Nat} {m p : Nat} (tp : TpM b m σ) (hp : p < 2 ^ 31) (q : K (some (.int (if p < m then nI (b p) else -1))) σ) : CTs (d + 1) y_M_byteAt [.ref 98, .int (nI p)] σ K := by
  obtain ⟨h3, hm, ht⟩ := tp
  refine e_M_byteAt (t_M_byteAt_0 ?_)
  rw [hm]
  by_cases h : p < m
  · rw [if_pos h] at q
    rw [nI_clamp (n := p) (by omega), (ht p h).1]
    exact ifn (nI_ge h (by omega)) ⟨vp_in_nI (by omega) (by omega), q⟩
  · rw [if_neg h] at q
    exact ifp (nI_le (by omega) hp) q
theorem p_isLet {d : Nat} {K : Po} {σ : Hp} {b : Nat → Nat} {m p : Nat} (hb : p < m → b p < 256) (q : K (some (.int (if srtB b m p = 1 then 1 else 0))) σ) : CTs (d + 2) y_M_isLetter [.int (if p < m then nI (b p) else -1)] σ K := by
  refine e_M_isLetter (t_M_isLetter_0 ?_)
  by_cases h : p < m
  · have h256 := hb h
    rw [if_pos h]
    by_cases e : srtB b m p = 1
    · rw [if_pos e] at q
      have := srt1 e
      exact p_in1 (nI_nlt (b := 97) (by omega) (by omega)) (nI_nlt (a := 122) (by omega) (by omega)) ⟨vb1, q⟩
    · rw [if_neg e] at q
      refine p_in0 ?_ ⟨vb0, q⟩
      unfold srtB at e
      rw [if_pos h] at e
      by_cases h2 : 97 ≤ b p ∧ b p ≤ 122
      · rw [if_pos h2] at e; exact absurd rfl e
      · by_cases h97 : b p < 97
        · exact Or.inl (nI_lt (b := 97) h97 (by omega))
        · exact Or.inr (nI_lt (a := 122) (by omega) (by omega))
  · rw [if_neg h]
    have e : ¬ srtB b m p = 1 := fun z => by rw [srtB_0.mpr (by omega)] at z; omega
    rw [if_neg e] at q
    exact p_in0 (Or.inl (by decide)) ⟨vb0, q⟩
theorem p_isDig {d : Nat} {K : Po} {σ : Hp} {b : Nat → Nat} {m p : Nat} (hb : p < m → b p < 256) (q : K (some (.int (if srtB b m p = 2 then 1 else 0))) σ) : CTs (d + 2) y_M_isDigit [.int (if p < m then nI (b p) else -1)] σ K := by
  refine e_M_isDigit (t_M_isDigit_0 ?_)
  by_cases h : p < m
  · have h256 := hb h
    rw [if_pos h]
    by_cases e : srtB b m p = 2
    · rw [if_pos e] at q
      have := srt2 e
      exact p_in1 (nI_nlt (b := 48) (by omega) (by omega)) (nI_nlt (a := 57) (by omega) (by omega)) ⟨vb1, q⟩
    · rw [if_neg e] at q
      refine p_in0 ?_ ⟨vb0, q⟩
      unfold srtB at e
      rw [if_pos h] at e
      by_cases h48 : b p < 48
      · exact Or.inl (nI_lt (b := 48) h48 (by omega))
      · by_cases h57 : 57 < b p
        · exact Or.inr (nI_lt (a := 57) h57 (by omega))
        · rw [if_neg (by omega), if_pos (by omega)] at e; exact absurd rfl e
  · rw [if_neg h]
    have e : ¬ srtB b m p = 2 := fun z => by rw [srtB_0.mpr (by omega)] at z; omega
    rw [if_neg e] at q
    exact p_in0 (Or.inl (by decide)) ⟨vb0, q⟩
