/-! ===== the tape and its tokens ===== -/
def srtB (b : Nat → Nat) (m p : Nat) : Nat := if p < m then (if 97 ≤ b p ∧ b p ≤ 122 then 1 else if 48 ≤ b p ∧ b p ≤ 57 then 2 else 3) else 0
def skp (b : Nat → Nat) (m : Nat) : Nat → Nat → Nat
  | 0, p => p
  | c + 1, p => if p < m ∧ b p = 32 then skp b m c (p + 1) else p
def run (b : Nat → Nat) (m s : Nat) : Nat → Nat → Nat
  | 0, p => p
  | c + 1, p => if srtB b m p = s then run b m s c (p + 1) else p
def vl (b : Nat → Nat) (base no st : Nat) : Nat → Nat
  | 0 => 0
  | k + 1 => vl b base no st k * base + (b (st + k) - no)
abbrev Tok : Type := Nat × Nat × Nat
/-- sort, start and end of the token that is sought from p on -/
def tkA (b : Nat → Nat) (m p : Nat) : Tok := (srtB b m (skp b m (m - p) p), skp b m (m - p) p, if srtB b m (skp b m (m - p) p) = 0 then skp b m (m - p) p else if srtB b m (skp b m (m - p) p) = 3 then skp b m (m - p) p + 1 else run b m (srtB b m (skp b m (m - p) p)) (m - skp b m (m - p) p) (skp b m (m - p) p))
def tk (b : Nat → Nat) (m : Nat) : Nat → Tok
  | 0 => tkA b m 0
  | j + 1 => tkA b m (tk b m j).2.2
def wv (b : Nat → Nat) (t : Tok) : Nat := vl b 27 96 t.2.1 (min 6 (t.2.2 - t.2.1))
def dv (b : Nat → Nat) (t : Tok) : Nat := vl b 10 48 t.2.1 (min 5 (t.2.2 - t.2.1))
theorem srtB_le {b : Nat → Nat} {m p : Nat} : srtB b m p ≤ 3 := by
  unfold srtB
  split
  · split
    · omega
    · split <;> omega
  · omega
theorem srtB_0 {b : Nat → Nat} {m p : Nat} : srtB b m p = 0 ↔ m ≤ p := by
  unfold srtB
  by_cases h : p < m
  · rw [if_pos h]
    constructor
    · intro e
      split at e
      · omega
      · split at e <;> omega
    · intro e; omega
  · rw [if_neg h]
    exact ⟨fun _ => by omega, fun _ => rfl⟩
theorem skp_ge {b : Nat → Nat} {m : Nat} : ∀ c p, p ≤ skp b m c p
  | 0, p => Nat.le_refl _
  | c + 1, p => by
    show p ≤ if p < m ∧ b p = 32 then skp b m c (p + 1) else p
    split
    · have := skp_ge (b := b) (m := m) c (p + 1); omega
    · exact Nat.le_refl _
theorem skp_le {b : Nat → Nat} {m : Nat} : ∀ c p, p ≤ m → skp b m c p ≤ m
  | 0, p, h => h
  | c + 1, p, h => by
    show (if p < m ∧ b p = 32 then skp b m c (p + 1) else p) ≤ m
    split
    · rename_i e; exact skp_le c (p + 1) (by omega)
    · exact h
theorem skp_st {b : Nat → Nat} {m : Nat} : ∀ c p, p + c = m → ¬ (skp b m c p < m ∧ b (skp b m c p) = 32)
  | 0, p, h => fun z => by have : p < m := z.1; omega
  | c + 1, p, h => by
    show ¬ ((if p < m ∧ b p = 32 then skp b m c (p + 1) else p) < m ∧ b (if p < m ∧ b p = 32 then skp b m c (p + 1) else p) = 32)
    by_cases e : p < m ∧ b p = 32
    · rw [if_pos e]; exact skp_st c (p + 1) (by omega)
    · rw [if_neg e]; exact e
theorem run_ge {b : Nat → Nat} {m s : Nat} : ∀ c p, p ≤ run b m s c p
  | 0, p => Nat.le_refl _
  | c + 1, p => by
    show p ≤ if srtB b m p = s then run b m s c (p + 1) else p
    split
    · have := run_ge (b := b) (m := m) (s := s) c (p + 1); omega
    · exact Nat.le_refl _
theorem run_le {b : Nat → Nat} {m s : Nat} (hs : s ≠ 0) : ∀ c p, p ≤ m → run b m s c p ≤ m
  | 0, p, h => h
  | c + 1, p, h => by
    show (if srtB b m p = s then run b m s c (p + 1) else p) ≤ m
    split
    · rename_i e
      have : p < m := Nat.lt_of_not_le (fun z => hs (by rw [← e]; exact srtB_0.mpr z))
      exact run_le hs c (p + 1) (by omega)
    · exact h
theorem run_1 {b : Nat → Nat} {m s p : Nat} (hs : s ≠ 0) (h : srtB b m p = s) : p < run b m s (m - p) p := by
  have hp : p < m := Nat.lt_of_not_le (fun z => hs (by rw [← h]; exact srtB_0.mpr z))
  obtain ⟨c, hc⟩ : ∃ c, m - p = c + 1 := ⟨m - p - 1, by omega⟩
  rw [hc]
  show p < if srtB b m p = s then run b m s c (p + 1) else p
  rw [if_pos h]
  have := run_ge (b := b) (m := m) (s := s) c (p + 1)
  omega
theorem tkA_ok {b : Nat → Nat} {m p : Nat} (hp : p ≤ m) : (tkA b m p).1 ≤ 3 ∧ p ≤ (tkA b m p).2.1 ∧ (tkA b m p).2.1 ≤ (tkA b m p).2.2 ∧ (tkA b m p).2.2 ≤ m ∧ ((tkA b m p).1 ≠ 0 → (tkA b m p).2.1 < (tkA b m p).2.2) ∧ ((tkA b m p).1 = 0 → (tkA b m p).2.1 = m ∧ (tkA b m p).2.2 = m) := by
  unfold tkA
  dsimp only
  generalize hst : skp b m (m - p) p = st
  have h1 : p ≤ st := by rw [← hst]; exact skp_ge _ _
  have h2 : st ≤ m := by rw [← hst]; exact skp_le _ _ hp
  generalize hs : srtB b m st = s
  have hs3 : s ≤ 3 := by rw [← hs]; exact srtB_le
  by_cases e0 : s = 0
  · rw [if_pos e0]
    have hm : m ≤ st := srtB_0.mp (hs.trans e0)
    exact ⟨hs3, h1, Nat.le_refl _, h2, fun z => absurd e0 z, fun _ => ⟨by omega, by omega⟩⟩
  · rw [if_neg e0]
    have hlt : st < m := Nat.lt_of_not_le (fun z => e0 (by rw [← hs]; exact srtB_0.mpr z))
    by_cases e3 : s = 3
    · rw [if_pos e3]
      exact ⟨hs3, h1, by omega, by omega, fun _ => by omega, fun z => absurd z e0⟩
    · rw [if_neg e3]
      have r1 := run_1 e0 hs
      exact ⟨hs3, h1, by omega, run_le e0 _ _ h2, fun _ => r1, fun z => absurd z e0⟩
theorem tk_ok {b : Nat → Nat} {m : Nat} : ∀ j, (tk b m j).1 ≤ 3 ∧ (tk b m j).2.1 ≤ (tk b m j).2.2 ∧ (tk b m j).2.2 ≤ m ∧ ((tk b m j).1 ≠ 0 → (tk b m j).2.1 < (tk b m j).2.2) ∧ ((tk b m j).1 = 0 → (tk b m j).2.1 = m ∧ (tk b m j).2.2 = m)
  | 0 => by
    obtain ⟨a, -, b1, c, d, e⟩ := tkA_ok (b := b) (m := m) (p := 0) (Nat.zero_le _)
    exact ⟨a, b1, c, d, e⟩
  | j + 1 => by
    obtain ⟨a, -, b1, c, d, e⟩ := tkA_ok (b := b) (m := m) (p := (tk b m j).2.2) (tk_ok j).2.2.1
    exact ⟨a, b1, c, d, e⟩
/-- the j-th token begins at j or behind -/
theorem tk_j {b : Nat → Nat} {m : Nat} : ∀ j, ((tk b m j).1 ≠ 0 → j ≤ (tk b m j).2.1 ∧ (tk b m j).2.1 < m) ∧ ((tk b m j).1 = 0 → (tk b m (j + 1)).1 = 0)
  | 0 => by
    refine ⟨fun h => ⟨Nat.zero_le _, ?_⟩, fun h => ?_⟩
    · have := tk_ok (b := b) (m := m) 0
      have := this.2.2.2.1 h
      omega
    · have h2 := ((tk_ok (b := b) (m := m) 0).2.2.2.2 h).2
      show (tkA b m (tk b m 0).2.2).1 = 0
      rw [h2]
      obtain ⟨-, a, -, -, -, -⟩ := tkA_ok (b := b) (m := m) (p := m) (Nat.le_refl _)
      exact srtB_0.mpr a
  | j + 1 => by
    obtain ⟨i1, i2⟩ := tk_j (b := b) (m := m) j
    have ok1 := tk_ok (b := b) (m := m) (j + 1)
    refine ⟨fun h => ?_, fun h => ?_⟩
    · have hj : (tk b m j).1 ≠ 0 := fun z => h (i2 z)
      have ok := tk_ok (b := b) (m := m) j
      have h3 := ok.2.2.2.1 hj
      have h4 := i1 hj
      obtain ⟨-, a, -, -, -, -⟩ := tkA_ok (b := b) (m := m) (p := (tk b m j).2.2) ok.2.2.1
      have a' : (tk b m j).2.2 ≤ (tk b m (j + 1)).2.1 := a
      have h5 := ok1.2.2.2.1 h
      exact ⟨by omega, by omega⟩
    · have h2 := (ok1.2.2.2.2 h).2
      show (tkA b m (tk b m (j + 1)).2.2).1 = 0
      rw [h2]
      obtain ⟨-, a, -, -, -, -⟩ := tkA_ok (b := b) (m := m) (p := m) (Nat.le_refl _)
      exact srtB_0.mpr a
theorem vl_lt {b : Nat → Nat} {base no st : Nat} (hb : 2 ≤ base) : ∀ k, (∀ i, i < k → b (st + i) - no < base) → vl b base no st k < base ^ k
  | 0, _ => by show 0 < base ^ 0; rw [Nat.pow_zero]; omega
  | k + 1, h => by
    show vl b base no st k * base + (b (st + k) - no) < base ^ (k + 1)
    have h1 := vl_lt (b := b) (no := no) (st := st) hb k (fun i hi => h i (by omega))
    have h2 := h k (by omega)
    rw [Nat.pow_succ]
    have h3 : (vl b base no st k + 1) * base ≤ base ^ k * base := Nat.mul_le_mul_right _ h1
    rw [Nat.succ_mul] at h3
    omega
/-- all bytes of a run are of its sort -/
theorem run_all {b : Nat → Nat} {m s : Nat} : ∀ c p i, p ≤ i → i < run b m s c p → srtB b m i = s
  | 0, p, i, h1, h2 => by
    have : i < p := h2
    omega
  | c + 1, p, i, h1, h2 => by
    have h2' : i < if srtB b m p = s then run b m s c (p + 1) else p := h2
    by_cases e : srtB b m p = s
    · rw [if_pos e] at h2'
      by_cases ei : i = p
      · rw [ei]; exact e
      · exact run_all c (p + 1) i (by omega) h2'
    · rw [if_neg e] at h2'; omega
theorem tkA_run {b : Nat → Nat} {m p : Nat} (h : (tkA b m p).1 = 1 ∨ (tkA b m p).1 = 2) : ∀ i, (tkA b m p).2.1 ≤ i → i < (tkA b m p).2.2 → srtB b m i = (tkA b m p).1 := by
  intro i h1 h2
  have e : (tkA b m p).2.2 = run b m (srtB b m (skp b m (m - p) p)) (m - skp b m (m - p) p) (skp b m (m - p) p) := by
    show (if srtB b m (skp b m (m - p) p) = 0 then _ else if srtB b m (skp b m (m - p) p) = 3 then _ else _) = _
    have h' : srtB b m (skp b m (m - p) p) = 1 ∨ srtB b m (skp b m (m - p) p) = 2 := h
    rw [if_neg (by omega), if_neg (by omega)]
  rw [e] at h2
  exact run_all _ _ _ h1 h2
theorem srt1 {b : Nat → Nat} {m i : Nat} (h : srtB b m i = 1) : i < m ∧ 97 ≤ b i ∧ b i ≤ 122 := by
  unfold srtB at h
  split at h
  · rename_i e
    split at h
    · rename_i e2; exact ⟨e, e2⟩
    · split at h <;> omega
  · omega
theorem srt2 {b : Nat → Nat} {m i : Nat} (h : srtB b m i = 2) : i < m ∧ 48 ≤ b i ∧ b i ≤ 57 := by
  unfold srtB at h
  split at h
  · rename_i e
    split at h
    · omega
    · split at h
      · rename_i e2; exact ⟨e, e2⟩
      · omega
  · omega
/-! ===== the class's next ===== -/
def TpC (b : Nat → Nat) (m : Nat) (σ : Hp) : Prop := m ≤ 300 ∧ σ.1 1 1 = nI m ∧ ∀ k, k < m → σ.1 2 k = nI (b k) ∧ b k < 256
def FrS (σ τ : Hp) : Prop := τ.2 = σ.2 ∧ (∀ c, c ≠ 1 → τ.1 c = σ.1 c) ∧ ∀ x, x ≠ 5 → x ≠ 6 → x ≠ 7 → x ≠ 8 → x ≠ 9 → τ.1 1 x = σ.1 1 x
theorem FrS.rf {σ : Hp} : FrS σ σ := ⟨rfl, fun _ _ => rfl, fun _ _ _ _ _ _ => rfl⟩
theorem FrS.tr {σ τ u : Hp} (h1 : FrS σ τ) (h2 : FrS τ u) : FrS σ u := ⟨h2.1.trans h1.1, fun c a => (h2.2.1 c a).trans (h1.2.1 c a), fun x a b c d e => (h2.2.2 x a b c d e).trans (h1.2.2 x a b c d e)⟩
theorem TpC.fr {b : Nat → Nat} {m : Nat} {σ τ : Hp} (h : TpC b m σ) (f : FrS σ τ) : TpC b m τ := ⟨h.1, (f.2.2 1 (by decide) (by decide) (by decide) (by decide) (by decide)).trans h.2.1, fun k hk => by rw [f.2.1 2 (by decide)]; exact h.2.2 k hk⟩
theorem FrS.s {σ : Hp} {x : Nat} {v : Int32} (h : x = 5 ∨ x = 6 ∨ x = 7 ∨ x = 8 ∨ x = 9) : FrS σ (sI σ 1 x v) := ⟨rfl, fun c hc => by rw [sI_r, if_neg hc], fun y h1 h2 h3 h4 h5 => by rw [sI_r, if_pos rfl, upd_r, if_neg (by omega)]⟩
/-- the class stands at a token -/
def CTk (b : Nat → Nat) (t : Tok) (σ : Hp) : Prop := σ.1 1 5 = nI t.2.2 ∧ σ.1 1 6 = nI t.1 ∧ σ.1 1 7 = nI t.2.1 ∧ (t.1 = 1 → σ.1 1 8 = nI (t.2.2 - t.2.1) ∧ σ.1 1 9 = nI (wv b t)) ∧ (t.1 = 2 → σ.1 1 8 = nI (t.2.2 - t.2.1) ∧ σ.1 1 9 = nI (dv b t)) ∧ (t.1 = 3 → σ.1 1 9 = nI (b t.2.1))
theorem p_sortAt {d : Nat} {K : Po} {σ : Hp} {b : Nat → Nat} {m p : Nat} (tp : TpC b m σ) (hp : p < 2 ^ 31) (q : K (some (.int (nI (srtB b m p)))) σ) : CTs (d + 1) y_Sc_sortAt [.ref 1, .int (nI p)] σ K := by
  obtain ⟨h3, hm, ht⟩ := tp
  refine e_Sc_sortAt (t_Sc_sortAt_0 ?_)
  rw [hm]
  unfold srtB at q
  by_cases h : p < m
  · obtain ⟨e, hb⟩ := ht p h
    have hv : vp_in (nI p) 300 := vp_in_nI (by omega) (by omega)
    rw [if_pos h] at q
    rw [nI_clamp (n := p) (by omega), e]
    refine ifp (nI_lt h (by omega)) ⟨hv, ?_⟩
    have dig : ¬ (97 ≤ b p ∧ b p ≤ 122) → vp_in (nI p) 300 ∧ (if nI (b p) < 48 then K (some (.int 3)) σ else (vp_in (nI p) 300 ∧ (if 57 < nI (b p) then K (some (.int 3)) σ else K (some (.int 2)) σ))) := fun hn => by
      rw [if_neg hn] at q
      refine ⟨hv, ?_⟩
      by_cases h48 : b p < 48
      · rw [if_neg (by omega)] at q
        exact ifp (nI_lt (b := 48) h48 (by omega)) q
      · refine ifn (nI_nlt (b := 48) (by omega) (by omega)) ⟨hv, ?_⟩
        by_cases h57 : 57 < b p
        · rw [if_neg (by omega)] at q
          exact ifp (nI_lt (a := 57) h57 (by omega)) q
        · rw [if_pos (by omega)] at q
          exact ifn (nI_nlt (a := 57) (by omega) (by omega)) q
    by_cases h97 : b p < 97
    · exact ifp (nI_lt (b := 97) h97 (by omega)) (dig (by omega))
    · refine ifn (nI_nlt (b := 97) (by omega) (by omega)) ⟨hv, ?_⟩
      by_cases h122 : 122 < b p
      · exact ifp (nI_lt (a := 122) h122 (by omega)) (dig (by omega))
      · rw [if_pos (by omega)] at q
        exact ifn (nI_nlt (a := 122) (by omega) (by omega)) q
  · rw [if_neg h] at q
    exact ifn (nI_nlt (by omega) hp) q
