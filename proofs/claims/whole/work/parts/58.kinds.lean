/-! ===== what a token is ===== -/
def keysN : List Nat := [411, 555, 11522, 131638, 10502465, 10650290, 2232979, 6476969, 283616032, 117696474, 212302449]
abbrev isK (b : Nat → Nat) (t : Tok) (key : Nat) : Prop := t.1 = 1 ∧ t.2.2 - t.2.1 ≤ 6 ∧ wv b t = key
abbrev isS (b : Nat → Nat) (t : Tok) (c : Nat) : Prop := t.1 = 3 ∧ b t.2.1 = c
abbrev isNm (b : Nat → Nat) (t : Tok) : Prop := t.1 = 1 ∧ t.2.2 - t.2.1 ≤ 5 ∧ ¬ wv b t ∈ keysN
abbrev isNu (b : Nat → Nat) (t : Tok) (lo hi : Nat) : Prop := t.1 = 2 ∧ t.2.2 - t.2.1 ≤ 5 ∧ lo ≤ dv b t ∧ dv b t ≤ hi
def kdT (b : Nat → Nat) (t : Tok) : Nat := if isK b t 10502465 then 1 else if isK b t 2232979 then 2 else if isK b t 283616032 then 3 else if isK b t 10650290 then 4 else if isK b t 212302449 then 5 else if isK b t 117696474 then 6 else 0
/-- a token's bounds -/
def TB (b : Nat → Nat) (t : Tok) : Prop := t.1 ≤ 3 ∧ t.2.1 ≤ t.2.2 ∧ t.2.2 ≤ 300 ∧ (t.1 = 1 → wv b t < 27 ^ 6 ∧ (t.2.2 - t.2.1 ≤ 5 → 27 ^ (t.2.2 - t.2.1 - 1) ≤ wv b t ∧ wv b t < 27 ^ (t.2.2 - t.2.1))) ∧ (t.1 = 2 → dv b t ≤ 99999) ∧ (t.1 = 3 → b t.2.1 < 256) ∧ (t.1 ≠ 0 → t.2.1 < t.2.2)
theorem vl_ge {b : Nat → Nat} {st : Nat} : ∀ k, (∀ i, i < k + 1 → 97 ≤ b (st + i)) → 27 ^ k ≤ vl b 27 96 st (k + 1)
  | 0, h => by
    show 27 ^ 0 ≤ 0 * 27 + (b (st + 0) - 96)
    have := h 0 (by omega)
    rw [Nat.pow_zero]
    omega
  | k + 1, h => by
    show 27 ^ (k + 1) ≤ vl b 27 96 st (k + 1) * 27 + (b (st + (k + 1)) - 96)
    have h1 := vl_ge (b := b) (st := st) k (fun i hi => h i (by omega))
    rw [Nat.pow_succ]
    have h3 : 27 ^ k * 27 ≤ vl b 27 96 st (k + 1) * 27 := Nat.mul_le_mul_right _ h1
    omega
theorem tkA_TB {b : Nat → Nat} {m p : Nat} (hm : m ≤ 300) (hp : p ≤ m) (hb : ∀ k, k < m → b k < 256) : TB b (tkA b m p) := by
  obtain ⟨a1, a2, a3, a4, a5, a6⟩ := tkA_ok (b := b) (m := m) (p := p) hp
  have hrun := tkA_run (b := b) (m := m) (p := p)
  generalize tkA b m p = t at a1 a2 a3 a4 a5 a6 hrun
  refine ⟨a1, a3, by omega, fun h1 => ?_, fun h2 => ?_, fun h3 => ?_, a5⟩
  · have hr := hrun (Or.inl h1)
    have hlt : ∀ k, k ≤ t.2.2 - t.2.1 → ∀ i, i < k → b (t.2.1 + i) - 96 < 27 := fun k hk i hi => by
      have := srt1 ((hr (t.2.1 + i) (by omega) (by omega)).trans h1)
      omega
    refine ⟨?_, fun h5 => ?_⟩
    · have := vl_lt (b := b) (base := 27) (no := 96) (st := t.2.1) (by omega) (min 6 (t.2.2 - t.2.1)) (hlt _ (by omega))
      exact Nat.lt_of_lt_of_le this (Nat.pow_le_pow_right (by omega) (by omega))
    · have h0 := a5 (by omega)
      have e : min 6 (t.2.2 - t.2.1) = t.2.2 - t.2.1 := by omega
      unfold wv
      rw [e]
      refine ⟨?_, vl_lt (by omega) _ (hlt _ (Nat.le_refl _))⟩
      have := vl_ge (b := b) (st := t.2.1) (t.2.2 - t.2.1 - 1) (fun i hi => by
        have := srt1 ((hr (t.2.1 + i) (by omega) (by omega)).trans h1)
        omega)
      rw [show t.2.2 - t.2.1 - 1 + 1 = t.2.2 - t.2.1 by omega] at this
      exact this
  · have hr := hrun (Or.inr h2)
    have := vl_lt (b := b) (base := 10) (no := 48) (st := t.2.1) (by omega) (min 5 (t.2.2 - t.2.1)) (fun i hi => by
      have := srt2 ((hr (t.2.1 + i) (by omega) (by omega)).trans h2)
      omega)
    have h5 : 10 ^ (min 5 (t.2.2 - t.2.1)) ≤ 10 ^ 5 := Nat.pow_le_pow_right (by omega) (by omega)
    unfold dv
    omega
  · have := a5 (by omega)
    exact hb _ (by omega)
theorem tk_TB {b : Nat → Nat} {m : Nat} (hm : m ≤ 300) (hb : ∀ k, k < m → b k < 256) : ∀ j, TB b (tk b m j)
  | 0 => tkA_TB hm (Nat.zero_le _) hb
  | j + 1 => tkA_TB hm (tk_ok j).2.2.1 hb
/-! of the class -/
theorem p_isKey {d : Nat} {K : Po} {σ : Hp} {b : Nat → Nat} {t : Tok} {key : Nat} (tb : TB b t) (ct : CTk b t σ) (hk : key < 2 ^ 31) (q : K (some (.int (if isK b t key then 1 else 0))) σ) : CTs (d + 1) y_Sc_isKey [.ref 1, .int (nI key)] σ K := by
  obtain ⟨b1, b2, b3, b4, b5, b6, b7⟩ := tb
  refine e_Sc_isKey (t_Sc_isKey_0 ?_)
  rw [ct.2.1]
  by_cases h1 : t.1 = 1
  · obtain ⟨c8, c9⟩ := ct.2.2.2.1 h1
    have hw := (b4 h1).1
    have h27 : (27 : Nat) ^ 6 < 2 ^ 31 := by decide
    rw [c8, c9]
    refine ifp (by rw [h1]; rfl) ?_
    by_cases h6 : t.2.2 - t.2.1 ≤ 6
    · refine ifn (nI_nlt (a := 6) h6 (by omega)) ?_
      by_cases e : wv b t = key
      · rw [if_pos ⟨h1, h6, e⟩] at q
        exact ifp (by rw [e]) ⟨vb1, q⟩
      · rw [if_neg (fun z => e z.2.2)] at q
        exact ifn (fun z => e ((nI_eq (by omega) hk).mp z)) ⟨vb0, q⟩
    · rw [if_neg (fun z => h6 z.2.1)] at q
      exact ifp (nI_lt (a := 6) (by omega) (by omega)) ⟨vb0, q⟩
  · rw [if_neg (fun z => h1 z.1)] at q
    exact ifn (fun z => h1 ((nI_eq (b := 1) (by omega) (by omega)).mp z)) ⟨vb0, q⟩
theorem p_isSign {d : Nat} {K : Po} {σ : Hp} {b : Nat → Nat} {t : Tok} {c : Nat} (tb : TB b t) (ct : CTk b t σ) (hc : c < 2 ^ 31) (q : K (some (.int (if isS b t c then 1 else 0))) σ) : CTs (d + 1) y_Sc_isSign [.ref 1, .int (nI c)] σ K := by
  obtain ⟨b1, b2, b3, b4, b5, b6, b7⟩ := tb
  refine e_Sc_isSign (t_Sc_isSign_0 ?_)
  rw [ct.2.1]
  by_cases h3 : t.1 = 3
  · rw [ct.2.2.2.2.2 h3]
    have hb := b6 h3
    refine ifp (by rw [h3]; rfl) ?_
    by_cases e : b t.2.1 = c
    · rw [if_pos ⟨h3, e⟩] at q
      exact ifp (by rw [e]) ⟨vb1, q⟩
    · rw [if_neg (fun z => e z.2)] at q
      exact ifn (fun z => e ((nI_eq (by omega) hc).mp z)) ⟨vb0, q⟩
  · rw [if_neg (fun z => h3 z.1)] at q
    exact ifn (fun z => h3 ((nI_eq (b := 3) (by omega) (by omega)).mp z)) ⟨vb0, q⟩
theorem keys_tv : ∀ k, k < 11 → tv 128 k = nI (keysN.getD k 0) ∧ keysN.getD k 0 < 2 ^ 31 := by decide +kernel
theorem keys_mem (x : Nat) : x ∈ keysN ↔ ∃ k, k < 11 ∧ keysN.getD k 0 = x := by
  constructor
  · intro h
    obtain ⟨k, hk, e⟩ := List.mem_iff_getElem.mp h
    exact ⟨k, hk, by rw [← e, List.getD_eq_getElem?_getD, List.getElem?_eq_getElem hk]; rfl⟩
  · intro ⟨k, hk, e⟩
    have hk' : k < keysN.length := hk
    rw [List.getD_eq_getElem?_getD, List.getElem?_eq_getElem hk'] at e
    rw [← e]
    exact List.getElem_mem hk'
theorem p_isName {d : Nat} {K : Po} {σ : Hp} {b : Nat → Nat} {t : Tok} (tb : TB b t) (ct : CTk b t σ) (q : K (some (.int (if isNm b t then 1 else 0))) σ) : CTs (d + 1) y_Sc_isName [.ref 1] σ K := by
  obtain ⟨b1, b2, b3, b4, b5, b6, b7⟩ := tb
  refine e_Sc_isName (t_Sc_isName_0 ?_)
  rw [ct.2.1]
  by_cases h1 : t.1 = 1
  · obtain ⟨c8, c9⟩ := ct.2.2.2.1 h1
    have hw := (b4 h1).1
    have h27 : (27 : Nat) ^ 6 < 2 ^ 31 := by decide
    rw [c8]
    refine ifp (by rw [h1]; rfl) ?_
    by_cases h5 : t.2.2 - t.2.1 ≤ 5
    · refine ifp (nI_le (b := 5) h5 (by omega)) ?_
      have loop : ∀ c k, k + c = 11 → (∀ j, j < k → ¬ wv b t = keysN.getD j 0) → WP c_Sc_isName (CTs d) K (20, [(0, .ref 1), (1, .int (nI k))], []) σ := by
        intro c
        induction c with
        | zero =>
          intro k hk hn
          refine t_Sc_isName_20 (ifp (nI_le (a := 11) (by omega) (by omega)) ⟨vb1, ?_⟩)
          have : ¬ wv b t ∈ keysN := fun z => by
            obtain ⟨j, hj, e⟩ := (keys_mem _).mp z
            exact hn j (by omega) e.symm
          rw [if_pos ⟨h1, h5, this⟩] at q
          exact q
        | succ c ih =>
          intro k hk hn
          obtain ⟨e1, e2⟩ := keys_tv k (by omega)
          refine t_Sc_isName_20 ?_
          rw [c9, nI_clamp (n := k) (by omega), e1, nI_1]
          refine ifn (nI_ge (b := 11) (by omega) (by omega)) ⟨vp_in_nI (by omega) (by omega), ?_⟩
          by_cases e : wv b t = keysN.getD k 0
          · have : wv b t ∈ keysN := (keys_mem _).mpr ⟨k, by omega, e.symm⟩
            rw [if_neg (fun z => z.2.2 this)] at q
            exact ifp (by rw [e]) ⟨vb0, q⟩
          · refine ifn (fun z => e ((nI_eq (by omega) e2).mp z)) (ih (k + 1) (by omega) (fun j hj => ?_))
            by_cases ej : j = k
            · rw [ej]; exact e
            · exact hn j (by omega)
      exact loop 11 0 (by omega) (fun j hj => absurd hj (by omega))
    · rw [if_neg (fun z => h5 z.2.1)] at q
      exact ifn (nI_ge (b := t.2.2 - t.2.1) (a := 5) (by omega) (by omega)) ⟨vb0, q⟩
  · rw [if_neg (fun z => h1 z.1)] at q
    exact ifn (fun z => h1 ((nI_eq (b := 1) (by omega) (by omega)).mp z)) ⟨vb0, q⟩
theorem p_isN {d : Nat} {K : Po} {σ : Hp} {b : Nat → Nat} {t : Tok} {lo hi : Nat} (tb : TB b t) (ct : CTk b t σ) (hlo : lo < 2 ^ 31) (hhi : hi < 2 ^ 31) (q : K (some (.int (if isNu b t lo hi then 1 else 0))) σ) : CTs (d + 1) y_Sc_isN [.ref 1, .int (nI lo), .int (nI hi)] σ K := by
  obtain ⟨b1, b2, b3, b4, b5, b6, b7⟩ := tb
  refine e_Sc_isN (t_Sc_isN_0 ?_)
  rw [ct.2.1]
  by_cases h2 : t.1 = 2
  · obtain ⟨c8, c9⟩ := ct.2.2.2.2.1 h2
    have hd := b5 h2
    rw [c8, c9]
    refine ifp (by rw [h2]; rfl) ?_
    by_cases h5 : t.2.2 - t.2.1 ≤ 5
    · refine ifn (nI_nlt (a := 5) h5 (by omega)) ?_
      by_cases e1 : dv b t < lo
      · rw [if_neg (fun z => absurd z.2.2.1 (by omega))] at q
        exact ifp (nI_lt e1 hlo) ⟨vb0, q⟩
      · refine ifn (nI_nlt (by omega) (by omega)) ?_
        by_cases e2 : hi < dv b t
        · rw [if_neg (fun z => absurd z.2.2.2 (by omega))] at q
          exact ifp (nI_lt e2 (by omega)) ⟨vb0, q⟩
        · rw [if_pos ⟨h2, h5, by omega, by omega⟩] at q
          exact ifn (nI_nlt (by omega) hhi) ⟨vb1, q⟩
    · rw [if_neg (fun z => h5 z.2.1)] at q
      exact ifp (nI_lt (a := 5) (by omega) (by omega)) ⟨vb0, q⟩
  · rw [if_neg (fun z => h2 z.1)] at q
    exact ifn (fun z => h2 ((nI_eq (b := 2) (by omega) (by omega)).mp z)) ⟨vb0, q⟩
theorem p_kindKey {d : Nat} {K : Po} {σ : Hp} {b : Nat → Nat} {t : Tok} (tb : TB b t) (ct : CTk b t σ) (q : K (some (.int (nI (kdT b t)))) σ) : CTs (d + 2) y_Sc_kindOfKey [.ref 1] σ K := by
  unfold kdT at q
  refine e_Sc_kindOfKey (t_Sc_kindOfKey_0 (p_isKey (key := 10502465) tb ct (by omega) ?_))
  by_cases h1 : isK b t 10502465
  · rw [if_pos h1] at q ⊢; exact ifn (by decide) q
  rw [if_neg h1] at q ⊢
  refine ifp rfl (p_isKey (key := 2232979) tb ct (by omega) ?_)
  by_cases h2 : isK b t 2232979
  · rw [if_pos h2] at q ⊢; exact ifn (by decide) q
  rw [if_neg h2] at q ⊢
  refine ifp rfl (p_isKey (key := 283616032) tb ct (by omega) ?_)
  by_cases h3 : isK b t 283616032
  · rw [if_pos h3] at q ⊢; exact ifn (by decide) q
  rw [if_neg h3] at q ⊢
  refine ifp rfl (p_isKey (key := 10650290) tb ct (by omega) ?_)
  by_cases h4 : isK b t 10650290
  · rw [if_pos h4] at q ⊢; exact ifn (by decide) q
  rw [if_neg h4] at q ⊢
  refine ifp rfl (p_isKey (key := 212302449) tb ct (by omega) ?_)
  by_cases h5 : isK b t 212302449
  · rw [if_pos h5] at q ⊢; exact ifn (by decide) q
  rw [if_neg h5] at q ⊢
  refine ifp rfl (p_isKey (key := 117696474) tb ct (by omega) ?_)
  by_cases h6 : isK b t 117696474
  · rw [if_pos h6] at q ⊢; exact ifn (by decide) q
  rw [if_neg h6] at q ⊢
  exact ifp rfl q
/-! of the model -/
theorem p_isMark {d : Nat} {K : Po} {σ : Hp} {b : Nat → Nat} {t : Tok} {c : Nat} (tb : TB b t) (mt : MTk b t σ) (hc : c < 2 ^ 31) (q : K (some (.int (if isS b t c then 1 else 0))) σ) : CTs (d + 1) y_M_isMark [.ref 98, .int (nI c)] σ K := by
  obtain ⟨b1, b2, b3, b4, b5, b6, b7⟩ := tb
  refine e_M_isMark (t_M_isMark_0 ?_)
  rw [mt.1]
  by_cases h3 : t.1 = 3
  · rw [mt.2.2.2.2.2 h3]
    have hb := b6 h3
    refine ifp (by rw [h3]; rfl) ?_
    by_cases e : b t.2.1 = c
    · rw [if_pos ⟨h3, e⟩] at q
      exact ifp (by rw [e]) ⟨vb1, q⟩
    · rw [if_neg (fun z => e z.2)] at q
      exact ifn (fun z => e ((nI_eq (by omega) hc).mp z)) ⟨vb0, q⟩
  · rw [if_neg (fun z => h3 z.1)] at q
    exact ifn (fun z => h3 ((nI_eq (b := 3) (by omega) (by omega)).mp z)) ⟨vb0, q⟩
theorem p_isWord {d : Nat} {K : Po} {σ : Hp} {b : Nat → Nat} {t : Tok} {key : Nat} (tb : TB b t) (mt : MTk b t σ) (hk : key < 2 ^ 31) (q : K (some (.int (if isK b t key then 1 else 0))) σ) : CTs (d + 1) y_M_isWord [.ref 98, .long (lN key)] σ K := by
  obtain ⟨b1, b2, b3, b4, b5, b6, b7⟩ := tb
  refine e_M_isWord (t_M_isWord_0 ?_)
  rw [mt.1]
  by_cases h1 : t.1 = 1
  · rw [mt.2.2.2.1 h1]
    have hw := (b4 h1).1
    have h27 : (27 : Nat) ^ 6 < 2 ^ 31 := by decide
    refine ifp (by rw [h1]; rfl) ?_
    by_cases h6 : t.2.2 - t.2.1 ≤ 6
    · rw [if_pos h6]
      by_cases e : wv b t = key
      · rw [if_pos ⟨h1, h6, e⟩] at q
        exact ifp ((lg_cmp_eq _ _).mpr (by rw [e])) ⟨vb1, q⟩
      · rw [if_neg (fun z => e z.2.2)] at q
        exact ifn (fun z => e ((lN_eq (by omega) hk).mp ((lg_cmp_eq _ _).mp z))) ⟨vb0, q⟩
    · rw [if_neg (fun z => h6 z.2.1)] at q
      rw [if_neg h6]
      refine ifn (fun z => ?_) ⟨vb0, q⟩
      have := congrArg Int64.toInt ((lg_cmp_eq _ _).mp z)
      rw [lN_toInt hk, show (-1 : Int64).toInt = -1 from by decide] at this
      omega
  · rw [if_neg (fun z => h1 z.1)] at q
    exact ifn (fun z => h1 ((nI_eq (b := 1) (by omega) (by omega)).mp z)) ⟨vb0, q⟩
theorem isK_ne {b : Nat → Nat} {t : Tok} {x y : Nat} (h : isK b t x) (hne : x ≠ y) : ¬ isK b t y := fun z => hne (h.2.2.symm.trans z.2.2)
theorem p_kindHere {d : Nat} {K : Po} {σ : Hp} {b : Nat → Nat} {t : Tok} (tb : TB b t) (mt : MTk b t σ) (q : K (some (.int (nI (kdT b t)))) σ) : CTs (d + 2) y_M_kindHere [.ref 98] σ K := by
  unfold kdT at q
  refine e_M_kindHere (t_M_kindHere_0 (p_isWord (key := 10502465) tb mt (by omega) ?_))
  by_cases h1 : isK b t 10502465
  · rw [if_pos h1] at q ⊢; exact ifn (by decide) q
  rw [if_neg h1] at q ⊢
  refine ifp rfl (p_isWord (key := 283616032) tb mt (by omega) ?_)
  by_cases h2 : isK b t 283616032
  · rw [if_neg (isK_ne h2 (by decide)), if_pos h2] at q
    rw [if_pos h2]; exact ifn (by decide) q
  rw [if_neg h2]
  refine ifp rfl (p_isWord (key := 117696474) tb mt (by omega) ?_)
  by_cases h3 : isK b t 117696474
  · rw [if_neg (isK_ne h3 (by decide)), if_neg (isK_ne h3 (by decide)), if_neg (isK_ne h3 (by decide)), if_neg (isK_ne h3 (by decide)), if_pos h3] at q
    rw [if_pos h3]; exact ifn (by decide) q
  rw [if_neg h3]
  refine ifp rfl (p_isWord (key := 212302449) tb mt (by omega) ?_)
  by_cases h4 : isK b t 212302449
  · rw [if_neg (isK_ne h4 (by decide)), if_neg (isK_ne h4 (by decide)), if_neg (isK_ne h4 (by decide)), if_pos h4] at q
    rw [if_pos h4]; exact ifn (by decide) q
  rw [if_neg h4]
  refine ifp rfl (p_isWord (key := 10650290) tb mt (by omega) ?_)
  by_cases h5 : isK b t 10650290
  · rw [if_neg (isK_ne h5 (by decide)), if_neg (isK_ne h5 (by decide)), if_pos h5] at q
    rw [if_pos h5]; exact ifn (by decide) q
  rw [if_neg h5]
  refine ifp rfl (p_isWord (key := 2232979) tb mt (by omega) ?_)
  by_cases h6 : isK b t 2232979
  · rw [if_pos h6] at q
    rw [if_pos h6]; exact ifn (by decide) q
  rw [if_neg h6, if_neg h2, if_neg h5, if_neg h4, if_neg h3] at q
  rw [if_neg h6]
  exact ifp rfl q
theorem kdT_0 {b : Nat → Nat} {t : Tok} : kdT b t = 0 ↔ ¬ isK b t 10502465 ∧ ¬ isK b t 2232979 ∧ ¬ isK b t 283616032 ∧ ¬ isK b t 10650290 ∧ ¬ isK b t 212302449 ∧ ¬ isK b t 117696474 := by
  unfold kdT
  by_cases h1 : isK b t 10502465
  · rw [if_pos h1]; exact ⟨fun z => absurd z (by decide), fun z => absurd h1 z.1⟩
  rw [if_neg h1]
  by_cases h2 : isK b t 2232979
  · rw [if_pos h2]; exact ⟨fun z => absurd z (by decide), fun z => absurd h2 z.2.1⟩
  rw [if_neg h2]
  by_cases h3 : isK b t 283616032
  · rw [if_pos h3]; exact ⟨fun z => absurd z (by decide), fun z => absurd h3 z.2.2.1⟩
  rw [if_neg h3]
  by_cases h4 : isK b t 10650290
  · rw [if_pos h4]; exact ⟨fun z => absurd z (by decide), fun z => absurd h4 z.2.2.2.1⟩
  rw [if_neg h4]
  by_cases h5 : isK b t 212302449
  · rw [if_pos h5]; exact ⟨fun z => absurd z (by decide), fun z => absurd h5 z.2.2.2.2.1⟩
  rw [if_neg h5]
  by_cases h6 : isK b t 117696474
  · rw [if_pos h6]; exact ⟨fun z => absurd z (by decide), fun z => absurd h6 z.2.2.2.2.2⟩
  rw [if_neg h6]
  exact ⟨fun _ => ⟨h1, h2, h3, h4, h5, h6⟩, fun _ => rfl⟩
theorem kdT_le {b : Nat → Nat} {t : Tok} : kdT b t ≤ 6 := by
  unfold kdT
  repeat (first | omega | split)
theorem p_mName {d : Nat} {K : Po} {σ : Hp} {b : Nat → Nat} {t : Tok} (tb : TB b t) (mt : MTk b t σ) (q : K (some (.int (if isNm b t then 1 else 0))) σ) : CTs (d + 4) y_M_isName [.ref 98] σ K := by
  have tb' := tb
  obtain ⟨b1, b2, b3, b4, b5, b6, b7⟩ := tb
  refine e_M_isName (t_M_isName_0 ?_)
  rw [mt.1, mt.2.1, mt.2.2.1]
  by_cases h1 : t.1 = 1
  · refine ifp (by rw [h1]; rfl) ?_
    rw [pk_sub b2]
    by_cases h5 : t.2.2 - t.2.1 ≤ 5
    · refine ifn (nI_nlt (a := 5) h5 (by omega)) ?_
      have nk : ∀ key, ¬ isK b t key → ¬ wv b t = key := fun key h e => h ⟨h1, by omega, e⟩
      have yes : wv b t ∈ keysN → K (some (.int 0)) σ := fun hm => by rw [if_neg (fun z => z.2.2 hm)] at q; exact q
      have kin : ∀ key, key ∈ keysN → isK b t key → wv b t ∈ keysN := fun key hm h => by rw [h.2.2]; exact hm
      refine e_M_isKey (t_M_isKey_0 (p_kindHere tb' mt ?_))
      by_cases hk : kdT b t = 0
      · rw [hk]
        obtain ⟨n1, n2, n3, n4, n5, n6⟩ := kdT_0.mp hk
        refine ifn (by decide) (p_isWord (key := 131638) tb' mt (by omega) ?_)
        by_cases h7 : isK b t 131638
        · rw [if_pos h7]; exact ifn (by decide) ⟨vb1, ifn (by decide) ⟨vb0, yes (kin _ (by decide) h7)⟩⟩
        rw [if_neg h7]
        refine ifp rfl (p_isWord (key := 555) tb' mt (by omega) ?_)
        by_cases h8 : isK b t 555
        · rw [if_pos h8]; exact ifn (by decide) ⟨vb1, ifn (by decide) ⟨vb0, yes (kin _ (by decide) h8)⟩⟩
        rw [if_neg h8]
        refine ifp rfl (p_isWord (key := 11522) tb' mt (by omega) ?_)
        by_cases h9 : isK b t 11522
        · rw [if_pos h9]; exact ifn (by decide) ⟨vb1, ifn (by decide) ⟨vb0, yes (kin _ (by decide) h9)⟩⟩
        rw [if_neg h9]
        refine ifp rfl (p_isWord (key := 411) tb' mt (by omega) ?_)
        by_cases h10 : isK b t 411
        · rw [if_pos h10]; exact ifn (by decide) ⟨vb1, ifn (by decide) ⟨vb0, yes (kin _ (by decide) h10)⟩⟩
        rw [if_neg h10]
        refine ifp rfl (p_isWord (key := 6476969) tb' mt (by omega) ?_)
        by_cases h11 : isK b t 6476969
        · rw [if_pos h11]; exact ifn (by decide) ⟨vb1, ifn (by decide) ⟨vb0, yes (kin _ (by decide) h11)⟩⟩
        rw [if_neg h11]
        have hno : ¬ wv b t ∈ keysN := fun z => by
          unfold keysN at z
          simp only [List.mem_cons, List.mem_nil_iff, or_false] at z
          rcases z with z | z | z | z | z | z | z | z | z | z | z
          · exact nk _ h10 z
          · exact nk _ h8 z
          · exact nk _ h9 z
          · exact nk _ h7 z
          · exact nk _ n1 z
          · exact nk _ n4 z
          · exact nk _ n2 z
          · exact nk _ h11 z
          · exact nk _ n3 z
          · exact nk _ n6 z
          · exact nk _ n5 z
        rw [if_pos ⟨h1, h5, hno⟩] at q
        exact ifp rfl ⟨vb0, ifp rfl ⟨vb1, q⟩⟩
      · have hin : wv b t ∈ keysN := Classical.byContradiction (fun z => hk (kdT_0.mpr ⟨fun y => z (kin _ (by decide) y), fun y => z (kin _ (by decide) y), fun y => z (kin _ (by decide) y), fun y => z (kin _ (by decide) y), fun y => z (kin _ (by decide) y), fun y => z (kin _ (by decide) y)⟩))
        exact ifp (nI_lt (a := 0) (by omega) (by have := kdT_le (b := b) (t := t); omega)) ⟨vb1, ifn (by decide) ⟨vb0, yes hin⟩⟩
    · rw [if_neg (fun z => h5 z.2.1)] at q
      exact ifp (nI_lt (a := 5) (by omega) (by omega)) ⟨vb0, q⟩
  · rw [if_neg (fun z => h1 z.1)] at q
    exact ifn (fun z => h1 ((nI_eq (b := 1) (by omega) (by omega)).mp z)) ⟨vb0, q⟩
