/-! ===== what is worked out: stacks, tables, signs ===== -/
def Stk (row : Nat → Int32) : List Int32 → Prop
  | [] => True
  | x :: l => row l.length = x ∧ Stk row l
theorem Stk.up {row : Nat → Int32} {k : Nat} {v : Int32} : ∀ {l : List Int32}, Stk row l → l.length ≤ k → Stk (upd row k v) l
  | [], _, _ => trivial
  | x :: l, h, hk => by
    have hk' : l.length + 1 ≤ k := hk
    exact ⟨by rw [pk_un (by omega)]; exact h.1, Stk.up h.2 (by omega)⟩
theorem Stk.push {row : Nat → Int32} {v : Int32} {l : List Int32} (h : Stk row l) : Stk (upd row l.length v) (v :: l) := ⟨pk_us, h.up (Nat.le_refl _)⟩
theorem div_m1 (x : Int32) : x / (-1) = 0 - x := Int32.toInt_inj.mp (by rw [Int32.toInt_div, Int32.zero_sub, show (-1 : Int32).toInt = -1 from rfl, Int32.toInt_neg, Int.tdiv_neg, Int.tdiv_one])
theorem p_joined {d : Nat} {K : Po} {σ : Hp} {s : Nat} {x y : Int32} (hs : s = 42 ∨ s = 43 ∨ s = 45 ∨ s = 47 ∨ s = 60 ∨ s = 61) (k : K (some (.int (j2 s x y))) σ) : CTs (d + 1) y_M_joined [.int (nI s), .int x, .int y] σ K := by
  refine e_M_joined (t_M_joined_0 ?_)
  rcases hs with rfl | rfl | rfl | rfl | rfl | rfl
  · exact ifp rfl k
  · exact ifn (by decide) (ifp rfl k)
  · exact ifn (by decide) (ifn (by decide) (ifp rfl k))
  · refine ifn (by decide) (ifn (by decide) (ifn (by decide) (ifp rfl ?_)))
    have e : j2 47 x y = if y = 0 then 0 else x / y := rfl
    rw [e] at k
    refine ite2 (fun h0 => ?_) (fun h0 => ite2 (fun h1 => ?_) (fun h1 => ⟨h0, ?_⟩))
    · rw [if_pos h0] at k; exact k
    · rw [if_neg h0, h1, div_m1] at k; exact k
    · rw [if_neg h0] at k; exact k
  · refine ifn (by decide) (ifn (by decide) (ifn (by decide) (ifn (by decide) (ifp rfl ?_))))
    have e : j2 60 x y = if x < y then 1 else 0 := rfl
    rw [e] at k
    refine ite2 (fun h0 => ?_) (fun h0 => ?_)
    · rw [if_neg (Int32.not_lt.mpr h0)] at k; exact k
    · rw [if_pos (Int32.not_le.mp h0)] at k; exact k
  · refine ifn (by decide) (ifn (by decide) (ifn (by decide) (ifn (by decide) (ifn (by decide) ?_))))
    have e : j2 61 x y = if x = y then 1 else 0 := rfl
    rw [e] at k
    refine ite2 (fun h0 => ?_) (fun h0 => ?_)
    · rw [if_pos h0] at k; exact k
    · rw [if_neg h0] at k; exact k
/-- a table that can be asked: at least a corner, no two at one place -/
def TabOK (th : Nat → Int32) (t c : Nat) : Prop := th (20 * t + 3) = nI c ∧ 2 ≤ c ∧ c ≤ 6 ∧ ∀ k, 1 ≤ k → k < c → (0 : Int64) < (th (20 * t + 8 + 2 * k) - th (20 * t + 8 + 2 * k - 2)).toInt64
theorem p_onLine {d : Nat} {K : Po} {σ : Hp} {t c : Nat} {x : Int32} (ht : t < 16) (ok : TabOK (σ.1 99) t c) (q : K (some (.int (lk (σ.1 99) t x))) σ) : CTs (d + 2) y_M_onLine [.ref 98, .int (nI t), .int x] σ K := by
  obtain ⟨hc, c2, c6, asc⟩ := ok
  refine e_M_onLine (t_M_onLine_0 (p_of (w := 3) ht (by omega) ?_))
  have e8 : (20 : Int32) * nI t + 8 = nI (20 * t + 8) := by rw [show (20 : Int32) = nI 20 from rfl, pk_mul]; exact nI_add _ 8
  have e9 : nI (20 * t + 8) + 1 = nI (20 * t + 8 + 1) := nI_1 _
  rw [e8, e9, nI_clamp (by omega), nI_clamp (by omega)]
  refine ⟨vp_in_nI (by omega) (by omega), ite2 (fun h0 => ?_) (fun h0 => ⟨vp_in_nI (by omega) (by omega), ?_⟩)⟩
  · show WP c_M_onLine (CTs (d + 1)) K (38, [(0, .ref 98), (2, .int x), (3, .int (nI (20 * t + 8))), (4, .int (σ.1 99 (20 * t + 3))), (5, .int 1)], []) σ
    rw [hc]
    unfold lk at q
    rw [if_neg (Int32.not_le.mpr h0), hc, show sN (nI c) = c from nI_clamp (by omega)] at q
    have key : ∀ r k, k + r = c + 1 → 1 ≤ k → 1 ≤ r → K (some (.int (lkB (σ.1 99) (20 * t + 8) x r k))) σ → WP c_M_onLine (CTs (d + 1)) K (38, [(0, .ref 98), (2, .int x), (3, .int (nI (20 * t + 8))), (4, .int (nI c)), (5, .int (nI k))], []) σ := by
      intro r
      induction r with
      | zero => intro k _ _ h1; omega
      | succ r ih =>
        intro k hk k1 _ qi
        have a0 : ∀ j, nI (20 * t + 8) + (2 : Int32) * nI j = nI (20 * t + 8 + 2 * j) := fun j => by rw [show (2 : Int32) = nI 2 from rfl, pk_mul, nI_add]
        have a1 : ∀ j, 1 ≤ j → nI (20 * t + 8 + 2 * j) - 1 = nI (20 * t + 8 + 2 * j - 1) := fun j hj => pk_sub (b := 1) (by omega)
        have a2 : ∀ j, 1 ≤ j → nI (20 * t + 8 + 2 * j) - 2 = nI (20 * t + 8 + 2 * j - 2) := fun j hj => pk_sub (b := 2) (by omega)
        refine t_M_onLine_38 ?_
        match r, ih, hk, qi with
        | 0, ih, hk, qi =>
          obtain rfl : k = c := by omega
          rw [a0, a1 k k1, nI_clamp (by omega)]
          exact ifp (Int32.le_refl _) ⟨vp_in_nI (by omega) (by omega), qi⟩
        | r + 1, ih, hk, qi =>
          refine ifn (nI_ge (by omega) (by omega)) ?_
          rw [a0, nI_1, a1 k k1, a2 k k1, nI_1, nI_clamp (by omega), nI_clamp (by omega), nI_clamp (by omega), nI_clamp (by omega)]
          unfold lkB at qi
          refine ⟨vp_in_nI (by omega) (by omega), ite2 (fun h1 => ?_) (fun h1 => ⟨vp_in_nI (by omega) (by omega), vp_in_nI (by omega) (by omega), vp_in_nI (by omega) (by omega), vp_in_nI (by omega) (by omega), vp_in_nI (by omega) (by omega), vp_in_nI (by omega) (by omega), ?_, ?_⟩)⟩
          · rw [if_neg (Int32.not_lt.mpr h1)] at qi
            exact ih (k + 1) (by omega) (by omega) (by omega) qi
          · intro e
            have := asc k k1 (by omega)
            rw [e] at this
            exact absurd this (by decide)
          · rw [if_pos (Int32.not_le.mp h1)] at qi
            exact qi
    exact key c 1 (by omega) (by omega) (by omega) q
  · unfold lk at q
    rw [if_pos (Int32.not_lt.mp h0)] at q
    exact q
/-- what a sign of two makes -/
def js (s : Nat) (x y : Int32) : Int32 := if s = 400000 then (if x < y then x else y) else j2 (s - 300000) x y
def isJ (s : Nat) : Prop := s = 400000 ∨ s = 300042 ∨ s = 300043 ∨ s = 300045 ∨ s = 300047 ∨ s = 300060 ∨ s = 300061
theorem p_wjoined {d : Nat} {K : Po} {σ : Hp} {s : Nat} {x y : Int32} (hs : isJ s) (k : K (some (.int (js s x y))) σ) : CTs (d + 1) y_Wo_joined [.int (nI (cwN s)), .int x, .int y] σ K := by
  refine e_Wo_joined (t_Wo_joined_0 ?_)
  rcases hs with rfl | rfl | rfl | rfl | rfl | rfl | rfl
  · refine ifn (by decide) (ifn (by decide) (ifn (by decide) (ifn (by decide) (ifn (by decide) (ifn (by decide) ?_)))))
    have e : js 400000 x y = if y < x then y else x := by
      show (if x < y then x else y) = _
      by_cases h : x < y
      · rw [if_pos h, if_neg (fun z => Int32.lt_irrefl (Int32.lt_trans h z))]
      · by_cases h2 : y < x
        · rw [if_neg h, if_pos h2]
        · rw [if_neg h, if_neg h2]
          exact Int32.le_antisymm (Int32.not_lt.mp h) (Int32.not_lt.mp h2)
    rw [e] at k
    exact k
  · exact ifn (by decide) (ifn (by decide) (ifp rfl k))
  · exact ifp rfl k
  · exact ifn (by decide) (ifp rfl k)
  · refine ifn (by decide) (ifn (by decide) (ifn (by decide) (ifp rfl ?_)))
    have e : js 300047 x y = if y = 0 then 0 else x / y := rfl
    rw [e] at k
    refine ite2 (fun h0 => ?_) (fun h0 => ⟨h0, ?_⟩)
    · rw [if_pos h0] at k; exact k
    · rw [if_neg h0] at k; exact k
  · refine ifn (by decide) (ifn (by decide) (ifn (by decide) (ifn (by decide) (ifp rfl ?_))))
    have e : js 300060 x y = if x < y then 1 else 0 := rfl
    rw [e] at k
    refine ite2 (fun h0 => ?_) (fun h0 => ?_)
    · rw [if_neg (Int32.not_lt.mpr h0)] at k; exact k
    · rw [if_pos (Int32.not_le.mp h0)] at k; exact k
  · refine ifn (by decide) (ifn (by decide) (ifn (by decide) (ifn (by decide) (ifn (by decide) (ifp rfl ?_)))))
    have e : js 300061 x y = if x = y then 1 else 0 := rfl
    rw [e] at k
    refine ite2 (fun h0 => ?_) (fun h0 => ?_)
    · rw [if_pos h0] at k; exact k
    · rw [if_neg h0] at k; exact k
theorem cmp_pos {a : Int64} (h : 0 < a) : 0 < lg_cmp a 0 := by
  unfold lg_cmp
  rw [if_pos h]
  decide
/-- the class's table -/
def TabC (σ : Hp) (th : Nat → Int32) (t c : Nat) : Prop := σ.1 12 t = nI c ∧ ∀ k, k < c → σ.1 13 (6 * t + k) = th (20 * t + 8 + 2 * k) ∧ σ.1 14 (6 * t + k) = th (20 * t + 9 + 2 * k)
theorem p_look {d : Nat} {K : Po} {σ : Hp} {th : Nat → Int32} {t c : Nat} {x : Int32} (ht : t < 16) (ok : TabOK th t c) (tc : TabC σ th t c) (q : K (some (.int (lk th t x))) σ) : CTs (d + 2) y_Tx_look [.ref 3, .int (nI t), .int x] σ K := by
  obtain ⟨hc, c2, c6, asc⟩ := ok
  obtain ⟨t0, tk⟩ := tc
  refine e_Tx_look rfl (t_Tx_look_0 rfl ?_)
  have e6 : nI t * (6 : Int32) = nI (6 * t) := by rw [show (6 : Int32) = nI 6 from rfl, pk_mul, Nat.mul_comm]
  show vp_in (nI t) 16 ∧ vp_in (nI t * (6 : Int32)) 96 ∧ (if σ.1 13 (nI t * (6 : Int32)).toNatClampNeg < x then WP c_Tx_look (CTs (d + 1)) K (39, [(0, .ref 3), (2, .int x), (3, .int (nI t * (6 : Int32))), (4, .int (nI t * (6 : Int32) + σ.1 12 (nI t).toNatClampNeg - 1)), (5, .int (nI t * (6 : Int32) + 1))], []) σ else vp_in (nI t * (6 : Int32)) 96 ∧ K (some (.int (σ.1 14 (nI t * (6 : Int32)).toNatClampNeg))) σ)
  have el : nI (6 * t) + nI c - 1 = nI (6 * t + c - 1) := by rw [nI_add]; exact pk_sub (b := 1) (by omega)
  rw [e6, nI_clamp (by omega), nI_clamp (by omega), t0, el, nI_1]
  have h0 := tk 0 (by omega)
  rw [show 6 * t + 0 = 6 * t from rfl, show 20 * t + 8 + 2 * 0 = 20 * t + 8 from rfl, show 20 * t + 9 + 2 * 0 = 20 * t + 9 from rfl] at h0
  rw [h0.1, h0.2]
  refine ⟨vp_in_nI (by omega) (by omega), vp_in_nI (by omega) (by omega), ite2 (fun hx => ?_) (fun hx => ⟨vp_in_nI (by omega) (by omega), ?_⟩)⟩
  · unfold lk at q
    rw [if_neg (Int32.not_le.mpr hx), hc, show sN (nI c) = c from nI_clamp (by omega)] at q
    have key : ∀ r k, k + r = c + 1 → 1 ≤ k → 1 ≤ r → K (some (.int (lkB th (20 * t + 8) x r k))) σ → WP c_Tx_look (CTs (d + 1)) K (39, [(0, .ref 3), (2, .int x), (3, .int (nI (6 * t))), (4, .int (nI (6 * t + c - 1))), (5, .int (nI (6 * t + k)))], []) σ := by
      intro r
      induction r with
      | zero => intro k _ _ h1; omega
      | succ r ih =>
        intro k hk k1 _ qi
        refine t_Tx_look_39 rfl ?_
        match r, ih, hk, qi with
        | 0, ih, hk, qi =>
          refine ifp (nI_lt (by omega) (by omega)) (ifp (nI_le (by omega) (by omega)) ⟨vp_in_nI (by omega) (by omega), ?_⟩)
          rw [nI_clamp (by omega)]
          have := (tk (c - 1) (by omega)).2
          show K (some (.int (σ.1 14 (6 * t + c - 1)))) σ
          rw [show 6 * t + c - 1 = 6 * t + (c - 1) by omega, this, show 20 * t + 9 + 2 * (c - 1) = 20 * t + 8 + 2 * k - 1 by omega]
          exact qi
        | r + 1, ih, hk, qi =>
          refine ifn (nI_nlt (by omega) (by omega)) ⟨vp_in_nI (by omega) (by omega), ?_⟩
          rw [nI_clamp (by omega), nI_1]
          have hk1 := tk k (by omega)
          have hk0 := tk (k - 1) (by omega)
          rw [show 20 * t + 8 + 2 * (k - 1) = 20 * t + 8 + 2 * k - 2 by omega, show 20 * t + 9 + 2 * (k - 1) = 20 * t + 8 + 2 * k - 1 by omega] at hk0
          show (if σ.1 13 (6 * t + k) ≤ x then _ else _)
          rw [hk1.1]
          unfold lkB at qi
          refine ite2 (fun h1 => ?_) (fun h1 => ?_)
          · rw [if_neg (Int32.not_lt.mpr h1)] at qi
            exact ih (k + 1) (by omega) (by omega) (by omega) qi
          · rw [if_pos (Int32.not_le.mp h1)] at qi
            rw [show nI (6 * t + k) - 1 = nI (6 * t + (k - 1)) from (pk_sub (b := 1) (by omega)).trans (by rw [show 6 * t + k - 1 = 6 * t + (k - 1) by omega])]
            refine e_Tx_between rfl (t_Tx_between_0 rfl ?_)
            rw [nI_1, show 6 * t + (k - 1) + 1 = 6 * t + k by omega, nI_clamp (by omega), nI_clamp (by omega)]
            show _ ∧ _ ∧ _ ∧ _ ∧ _ ∧ (if 0 < lg_cmp (σ.1 13 (6 * t + k) - σ.1 13 (6 * t + (k - 1))).toInt64 0 then _ ∧ ¬ (σ.1 13 (6 * t + k) - σ.1 13 (6 * t + (k - 1))).toInt64 = 0 ∧ K (some (.int (σ.1 14 (6 * t + (k - 1)) + ((σ.1 14 (6 * t + k) - σ.1 14 (6 * t + (k - 1))).toInt64 * (x - σ.1 13 (6 * t + (k - 1))).toInt64 / (σ.1 13 (6 * t + k) - σ.1 13 (6 * t + (k - 1))).toInt64).toInt32))) σ else _)
            rw [hk1.1, hk1.2, hk0.1, hk0.2, show 20 * t + 9 + 2 * k = 20 * t + 8 + 2 * k + 1 by omega]
            have ha := asc k k1 (by omega)
            exact ⟨vp_in_nI (by omega) (by omega), vp_in_nI (by omega) (by omega), vp_in_nI (by omega) (by omega), vp_in_nI (by omega) (by omega), vp_in_nI (by omega) (by omega), ifp (cmp_pos ha) ⟨vp_in_nI (by omega) (by omega), fun z => by rw [z] at ha; exact Int64.lt_irrefl ha, qi⟩⟩
    exact key c 1 (by omega) (by omega) (by omega) q
  · unfold lk at q
    rw [if_pos (Int32.not_lt.mp hx)] at q
    exact q
