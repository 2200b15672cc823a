/-! ===== sheet ===== -/
theorem SameG.off1 {rows : List Nat} {fl : List (Nat × Nat)} {lr : List Nat} {lf : List (Nat × Nat)} {σ τ u : Hp} {c0 : Nat} (hs : SameG rows fl lr lf σ τ) (h1 : ∀ c, c ≠ c0 → u.1 c = τ.1 c) (h2 : u.2 = τ.2) (ho : offC rows fl c0 = true) : SameG rows fl lr lf σ u := by
  unfold offC at ho
  rw [Bool.and_eq_true, Bool.not_eq_true', Bool.not_eq_true'] at ho
  refine ⟨fun a ha => (h1 a (any_beq ho.1 a ha)).trans (hs.1 a ha), fun q hq => ?_, by rw [h2]; exact hs.2.2.1, by rw [h2]; exact hs.2.2.2⟩
  rw [h1 q.1 (fun e => ?_)]
  · exact hs.2.1 q hq
  · have := List.any_eq_false.mp ho.2 q hq
    rw [e, Nat.beq_refl] at this
    exact this rfl
theorem SameG.off2 {rows : List Nat} {fl : List (Nat × Nat)} {lr : List Nat} {lf : List (Nat × Nat)} {σ τ u : Hp} {c0 : Nat} (hs : SameG rows fl lr lf σ τ) (h1 : ∀ c, c ≠ c0 → u.2 c = τ.2 c) (h2 : u.1 = τ.1) (ho : offC lr lf c0 = true) : SameG rows fl lr lf σ u := by
  unfold offC at ho
  rw [Bool.and_eq_true, Bool.not_eq_true', Bool.not_eq_true'] at ho
  refine ⟨by rw [h2]; exact hs.1, by rw [h2]; exact hs.2.1, fun a ha => (h1 a (any_beq ho.1 a ha)).trans (hs.2.2.1 a ha), fun q hq => ?_⟩
  rw [h1 q.1 (fun e => ?_)]
  · exact hs.2.2.2 q hq
  · have := List.any_eq_false.mp ho.2 q hq
    rw [e, Nat.beq_refl] at this
    exact this rfl
def Fill1 (c0 lo hi : Nat) (σ τ : Hp) : Prop := τ.2 = σ.2 ∧ (∀ c, c ≠ c0 → τ.1 c = σ.1 c) ∧ ∀ k, τ.1 c0 k = if lo ≤ k ∧ k < hi then 0 else σ.1 c0 k
def Fill2 (c0 lo hi : Nat) (σ τ : Hp) : Prop := τ.1 = σ.1 ∧ (∀ c, c ≠ c0 → τ.2 c = σ.2 c) ∧ ∀ k, τ.2 c0 k = if lo ≤ k ∧ k < hi then 0 else σ.2 c0 k
theorem Fill1.rf {c0 lo : Nat} {σ : Hp} : Fill1 c0 lo lo σ σ := ⟨rfl, fun _ _ => rfl, fun k => by rw [if_neg (by omega)]⟩
theorem Fill2.rf {c0 lo : Nat} {σ : Hp} : Fill2 c0 lo lo σ σ := ⟨rfl, fun _ _ => rfl, fun k => by rw [if_neg (by omega)]⟩
theorem Fill1.st {c0 lo hi : Nat} {σ τ : Hp} (h : Fill1 c0 lo hi σ τ) (hl : lo ≤ hi) : Fill1 c0 lo (hi + 1) σ (sI τ c0 hi 0) := by
  refine ⟨h.1, fun c hc => by rw [sI_r, if_neg hc]; exact h.2.1 c hc, fun k => ?_⟩
  rw [sI_r, if_pos rfl, upd_r]
  by_cases e : k = hi
  · rw [if_pos e, if_pos (by omega)]
  · rw [if_neg e, h.2.2 k]
    by_cases e2 : lo ≤ k ∧ k < hi
    · rw [if_pos e2, if_pos (by omega)]
    · rw [if_neg e2, if_neg (by omega)]
theorem Fill2.st {c0 lo hi : Nat} {σ τ : Hp} (h : Fill2 c0 lo hi σ τ) (hl : lo ≤ hi) : Fill2 c0 lo (hi + 1) σ (sL τ c0 hi 0) := by
  refine ⟨h.1, fun c hc => by rw [sL_l, if_neg hc]; exact h.2.1 c hc, fun k => ?_⟩
  rw [sL_l, if_pos rfl, updL_r]
  by_cases e : k = hi
  · rw [if_pos e, if_pos (by omega)]
  · rw [if_neg e, h.2.2 k]
    by_cases e2 : lo ≤ k ∧ k < hi
    · rw [if_pos e2, if_pos (by omega)]
    · rw [if_neg e2, if_neg (by omega)]
theorem p_fill {d : Nat} {K : Po} {σ : Hp} {lo hi : Nat} (h1 : lo ≤ hi) (h2 : hi ≤ 160) (k : ∀ τ, Fill1 84 lo hi σ τ → K none τ) : CTs (d + 2) y_Ar_fill [.ref 84, .int (nI lo), .int (nI hi), .int 0] σ K := by
  refine e_Ar_fill rfl (t_Ar_fill_0 rfl (e_Ar_rangeCheck (t_Ar_rangeCheck_0 (ifp (nI_le h1 (by omega)) (ifp (nI_pos' (by omega)) (ifp (nI_le (b := 160) h2 (by omega)) ?_))))))
  have key : ∀ c m τ, m + c = hi → lo ≤ m → Fill1 84 lo m σ τ → WP c_Ar_fill (CTs (d + 1)) K (10, [(0, .ref 84), (2, .int (nI hi)), (3, .int 0), (4, .int (nI m))], []) τ := by
    intro c
    induction c with
    | zero =>
      intro m τ hm hl hF
      refine t_Ar_fill_10 rfl (ifp (nI_le (by omega) (by omega)) (k τ ?_))
      rw [← show m = hi by omega]
      exact hF
    | succ c ih =>
      intro m τ hm hl hF
      refine t_Ar_fill_10 rfl (ifn (nI_ge (by omega) (by omega)) ⟨vp_in_nI (by omega) (by omega), ?_⟩)
      rw [nI_clamp (by omega), nI_1]
      exact ih (m + 1) _ (by omega) (by omega) (hF.st hl)
  exact key (hi - lo) lo σ (by omega) (Nat.le_refl _) Fill1.rf
theorem p_mfill {d : Nat} {K : Po} {σ : Hp} {s : Nat} (hs : s < 4) (k : ∀ τ, Fill2 121 (40 * s) (40 * s + 40) σ τ → K (some (.int 1)) τ) : WP c_M_sheet (CTs d) K (64, [(0, .ref 98), (1, .int (nI s)), (4, .int (0 : Int32))], []) σ := by
  have key : ∀ c m τ, m + c = 40 → Fill2 121 (40 * s) (40 * s + m) σ τ → WP c_M_sheet (CTs d) K (64, [(0, .ref 98), (1, .int (nI s)), (4, .int (nI m))], []) τ := by
    intro c
    induction c with
    | zero =>
      intro m τ hm hF
      refine t_M_sheet_64 (ifp (nI_le (a := 40) (by omega) (by omega)) (k τ ?_))
      obtain rfl : m = 40 := by omega
      exact hF
    | succ c ih =>
      intro m τ hm hF
      have e := (ix_40 (s := s) (i := m) hs (by omega)).2
      refine t_M_sheet_64 (ifn (nI_ge (b := 40) (by omega) (by omega)) ⟨e.1, ?_⟩)
      rw [e.2, nI_1]
      exact ih (m + 1) _ (by omega) (hF.st (by omega))
  exact key 40 0 σ (by omega) Fill2.rf
theorem Rel_sheet {σ τ u : Hp} (h : Rel σ) {s : Nat} {so z : Int32} (hs : s < 4) (hso : so = -1 ∨ ∃ k, k < 4 ∧ so = nI k) (hz : ∃ k, k ≤ 40 ∧ z = nI k) (hF : Fill1 84 (40 * s) (40 * s + 40) (sI (sI σ 82 s so) 83 s z) τ) (hG : Fill2 121 (40 * s) (40 * s + 40) (sI (sI τ 119 s so) 120 s z) u) : Rel u := by
  obtain ⟨⟨n, now, ne, hc⟩, hr, hkp⟩ := h
  refine ⟨⟨n, now, ne, hc.same (((((((SameG.rf.sI rfl).sI rfl).off1 hF.2.1 hF.1 rfl).sI rfl).sI rfl).off2 hG.2.1 hG.1 rfl))⟩, ?_, hkp.same (((((((SameG.rf.sI rfl).sI rfl).off1 hF.2.1 hF.1 rfl).sI rfl).sI rfl).off2 hG.2.1 hG.1 rfl))⟩
  obtain ⟨g1, g2, g3, g4, g5, g6⟩ := hr
  have hI : ∀ c, c ≠ 84 → c ≠ 82 → c ≠ 83 → c ≠ 119 → c ≠ 120 → u.1 c = σ.1 c := fun c h1 h2 h3 h4 h5 => by
    rw [hG.1, sI_r, if_neg h5, sI_r, if_neg h4, hF.2.1 c h1, sI_r, if_neg h3, sI_r, if_neg h2]
  have e82 : u.1 82 = upd (σ.1 82) s so := by rw [hG.1]; show τ.1 82 = _; rw [hF.2.1 82 (by decide)]; rfl
  have e83 : u.1 83 = upd (σ.1 83) s z := by rw [hG.1]; show τ.1 83 = _; rw [hF.2.1 83 (by decide)]; rfl
  have e119 : u.1 119 = upd (σ.1 119) s so := by rw [hG.1]; show upd (τ.1 119) s so = _; rw [hF.2.1 119 (by decide)]; rfl
  have e120 : u.1 120 = upd (σ.1 120) s z := by rw [hG.1]; show upd (τ.1 120) s z = _; rw [hF.2.1 120 (by decide)]; rfl
  have e84 : ∀ k, u.1 84 k = if 40 * s ≤ k ∧ k < 40 * s + 40 then 0 else σ.1 84 k := fun k => by rw [hG.1]; show τ.1 84 k = _; rw [hF.2.2 k]; rfl
  have e121 : ∀ k, u.2 121 k = if 40 * s ≤ k ∧ k < 40 * s + 40 then 0 else σ.2 121 k := fun k => by rw [hG.2.2 k]; show (if _ then _ else τ.2 121 k) = _; rw [hF.1]; rfl
  unfold RRest
  rw [hI 1 (by decide) (by decide) (by decide) (by decide) (by decide), hI 98 (by decide) (by decide) (by decide) (by decide) (by decide), hI 2 (by decide) (by decide) (by decide) (by decide) (by decide), hI 101 (by decide) (by decide) (by decide) (by decide) (by decide), hI 0 (by decide) (by decide) (by decide) (by decide) (by decide), hI 81 (by decide) (by decide) (by decide) (by decide) (by decide), hI 118 (by decide) (by decide) (by decide) (by decide) (by decide), hI 85 (by decide) (by decide) (by decide) (by decide) (by decide), hI 86 (by decide) (by decide) (by decide) (by decide) (by decide), hI 87 (by decide) (by decide) (by decide) (by decide) (by decide), hI 122 (by decide) (by decide) (by decide) (by decide) (by decide), hI 123 (by decide) (by decide) (by decide) (by decide) (by decide), hI 124 (by decide) (by decide) (by decide) (by decide) (by decide), hI 88 (by decide) (by decide) (by decide) (by decide) (by decide), hI 89 (by decide) (by decide) (by decide) (by decide) (by decide), hI 125 (by decide) (by decide) (by decide) (by decide) (by decide)]
  refine ⟨g1, g2, g3, ⟨fun k hk => ?_, fun k hk => ?_⟩, g5, g6⟩
  · rw [e82, e83, e119, e120]
    by_cases e : k = s
    · subst e
      rw [pk_us, pk_us, pk_us, pk_us]
      exact ⟨rfl, hso, rfl, hz⟩
    · rw [pk_un e, pk_un e, pk_un e, pk_un e]
      exact g4.1 k hk
  · rw [e84, e121]
    by_cases e : 40 * s ≤ k ∧ k < 40 * s + 40
    · rw [if_pos e, if_pos e]; rfl
    · rw [if_neg e, if_neg e]; exact g4.2 k hk
theorem op_sheet : O_sheet Rel := by
  intro σ a1 a2 a3 h
  refine e_SS_sheet (t_SS_sheet_0 ?_)
  rcases ixc a1 (n := 4) (by omega) with z | ⟨s, hs, rfl⟩
  · exact p_sSheet0 z (o0 (e_M_sheet (t_M_sheet_0 (p_mShelf0 z (o0 ⟨rfl, h⟩)))))
  have hv : vp_in (nI s) 4 := vp_in_nI (by omega) (by omega)
  have hcl : (nI s).toNatClampNeg = s := nI_clamp (by omega)
  have e1 : nI s * (40 : Int32) = nI (40 * s) := by rw [show (40 : Int32) = nI 40 from rfl, pk_mul, Nat.mul_comm]
  have e2 : (nI s + 1) * (40 : Int32) = nI (40 * s + 40) := by rw [nI_1, show (40 : Int32) = nI 40 from rfl, pk_mul]; congr 1; omega
  refine p_sSheet1 hs (o1 ?_)
  rw [hcl, e1, e2]
  rcases ixc a2 (n := 4) (by omega) with q | ⟨w, hw, rfl⟩
  · by_cases em : a2 = -1
    · subst em
      refine ifn (by decide) (ifp (by decide) (ifp rfl ⟨hv, ifp rfl ⟨hv, p_fill (by omega) (by omega) (fun τ hF => e_M_sheet (t_M_sheet_0 (p_mShelf1 hs (o1 (p_in1 (by decide) (by decide) (o1 ?_))))))⟩⟩))
      rw [hcl]
      refine ifp (by decide) (ifp (by decide) ⟨hv, ifn (by decide) ⟨hv, p_mfill hs (fun u hG => ⟨rfl, Rel_sheet h hs (Or.inl rfl) ⟨0, by omega, rfl⟩ hF hG⟩)⟩⟩)
    · have hlt : a2 < -1 ∨ 3 < a2 := by
        rcases q with q | q
        · refine Or.inl ?_
          rw [Int32.lt_iff_toInt_lt] at q ⊢
          have : a2.toInt ≠ -1 := fun z => em (Int32.toInt_inj.mp z)
          have e3 : (-1 : Int32).toInt = -1 := rfl
          have e4 : (0 : Int32).toInt = 0 := rfl
          omega
        · exact Or.inr (Int32.lt_of_lt_of_le (by decide) q)
      have hm : CTs 60 y_M_sheet [.ref 98, .int (nI s), .int a2, .int a3] σ (fun r' σ2 => oI (some (.int (-1 : Int32))) = oI r' ∧ Rel σ2) := e_M_sheet (t_M_sheet_0 (p_mShelf1 hs (o1 (p_in0 hlt (o0 ⟨rfl, h⟩)))))
      refine ite2 (fun _ => hm) (fun h1 => ifn ?_ hm)
      rcases hlt with z | z
      · exact absurd z h1
      · exact fun y => absurd (Int32.lt_of_lt_of_le z y) Int32.lt_irrefl
  · have hm1 : nI w ≠ -1 := nI_nm1 (by omega)
    have hw0 : ¬ nI w < 0 := nI_pos (by omega)
    have hw1 : ¬ nI w < -1 := fun z => hw0 (Int32.lt_of_lt_of_le z (by decide))
    have hw3 : nI w ≤ 3 := nI_le (b := 3) (by omega) (by omega)
    have hw3' : ¬ (3 : Int32) < nI w := Int32.not_lt.mpr hw3
    refine ifn hw1 (ifp hw3 (ifn hm1 (ite2 (fun h40 => ite2 (fun h0 => ⟨hv, ifn hm1 ⟨hv, ?_⟩⟩) (fun h0 => ?_)) (fun h40 => ?_))))
    · obtain ⟨z, hz, rfl⟩ := nI_of2 (M := 40) (n := 40) rfl (Int32.not_lt.mpr h0) h40
      refine p_fill (by omega) (by omega) (fun τ hF => e_M_sheet (t_M_sheet_0 (p_mShelf1 hs (o1 (p_in1 hw1 hw3' (o1 ?_))))))
      rw [hcl]
      exact ifn hw0 (ifp h40 (ifn hw0 (ifp h0 ⟨hv, ifp (nI_pos' (by omega)) ⟨hv, p_mfill hs (fun u hG => ⟨rfl, Rel_sheet h hs (Or.inr ⟨w, hw, rfl⟩) ⟨z, hz, rfl⟩ hF hG⟩)⟩⟩)))
    · exact e_M_sheet (t_M_sheet_0 (p_mShelf1 hs (o1 (p_in1 hw1 hw3' (o1 (ifn hw0 (ifp h40 (ifn hw0 (ifn h0 ⟨rfl, h⟩)))))))))
    · exact e_M_sheet (t_M_sheet_0 (p_mShelf1 hs (o1 (p_in1 hw1 hw3' (o1 (ifn hw0 (ifn h40 ⟨rfl, h⟩)))))))
