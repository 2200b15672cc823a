/-! ===== feed ===== -/
theorem b255 : (∀ i, i < 32 → (255#32).getLsbD i = decide (i < 8)) ∧ ∀ i, i < 32 → (255#64).getLsbD i = decide (i < 8) := by decide +kernel
theorem by_k (x : BitVec 64) (n : Nat) (hn : n ≤ 56) : ((x >>> n).signExtend 32) &&& 255#32 = ((x.sshiftRight n) &&& 255#64).signExtend 32 := by
  apply BitVec.eq_of_getLsbD_eq
  intro i hi
  rw [BitVec.getLsbD_and, b255.1 i hi]
  have e1 : ((x >>> n).signExtend 32).getLsbD i = x.getLsbD (n + i) := by
    rw [BitVec.getLsbD_signExtend]
    simp [hi, show i < 64 by omega]
  have e2 : (((x.sshiftRight n) &&& 255#64).signExtend 32).getLsbD i = ((x.sshiftRight n).getLsbD i && decide (i < 8)) := by
    rw [BitVec.getLsbD_signExtend]
    simp only [hi, decide_true, Bool.true_and, show i < 64 by omega, if_true, BitVec.getLsbD_and, b255.2 i hi]
  rw [e1, e2]
  by_cases h8 : i < 8
  · rw [BitVec.getLsbD_sshiftRight]
    simp [h8, show ¬ 64 ≤ i by omega, show n + i < 64 by omega]
  · simp [h8]
def byC (x : Int64) (k : Nat) : Int32 := (((x.toUInt64 >>> (((8 : Int32) * nI k).toInt64.toUInt64 &&& Int64.toUInt64 63)).toInt64)).toInt32 &&& (255 : Int32)
def byM (x : Int64) (k : Nat) : Int32 := (((x >>> (((8 : Int32) * nI k).toInt64 &&& 63)) &&& (255 : Int64))).toInt32
theorem by_eq (x : Int64) {k : Nat} (h : k < 8) : byC x k = byM x k := by
  apply Int32.toBitVec_inj.mp
  match k, h with
  | 0, _ => exact by_k x.toBitVec 0 (by omega)
  | 1, _ => exact by_k x.toBitVec 8 (by omega)
  | 2, _ => exact by_k x.toBitVec 16 (by omega)
  | 3, _ => exact by_k x.toBitVec 24 (by omega)
  | 4, _ => exact by_k x.toBitVec 32 (by omega)
  | 5, _ => exact by_k x.toBitVec 40 (by omega)
  | 6, _ => exact by_k x.toBitVec 48 (by omega)
  | 7, _ => exact by_k x.toBitVec 56 (by omega)
theorem by_lt (x : Int64) (k : Nat) : ∃ b, b < 256 ∧ byC x k = nI b := by
  obtain ⟨j, hj, e⟩ := pk_andE ((((x.toUInt64 >>> (((8 : Int32) * nI k).toInt64.toUInt64 &&& Int64.toUInt64 63)).toInt64)).toInt32) (m := 255) 8 (by decide)
  exact ⟨j, hj, e⟩
/-- a row that takes n bytes from f on -/
def FedB (x : Int64) (f n : Nat) (g : Nat → Int32) : Nat → Int32 := fun j => if f ≤ j ∧ j < f + n then byC x (j - f) else g j
theorem FedB_st {x : Int64} {f n : Nat} {g : Nat → Int32} : upd (FedB x f n g) (f + n) (byC x n) = FedB x f (n + 1) g := by
  funext j
  rw [upd_r]
  unfold FedB
  by_cases e : j = f + n
  · rw [if_pos e, if_pos (by omega), show j - f = n by omega]
  · rw [if_neg e]
    by_cases e2 : f ≤ j ∧ j < f + n
    · rw [if_pos e2, if_pos (by omega)]
    · rw [if_neg e2, if_neg (by omega)]
theorem nbq {a b : Nat} (h : Nat.beq a b = false) : a ≠ b := fun e => by rw [e, Nat.beq_refl] at h; cases h
def Row1 (c0 : Nat) (g : Nat → Int32) (σ τ : Hp) : Prop := τ.2 = σ.2 ∧ (∀ c, c ≠ c0 → τ.1 c = σ.1 c) ∧ τ.1 c0 = g
theorem op_feed : O_feed Rel := by
  intro σ x a3 h
  obtain ⟨⟨n, now, ne, hc⟩, hr, hkp⟩ := id h
  obtain ⟨⟨f, f300, f1, f2, ft⟩, g2, g3, g4, g5, g6⟩ := id hr
  refine e_SS_feed (t_SS_feed_0 ?_)
  have m0 : ∀ {r : Int32}, (a3 < 1 ∨ 8 < a3) → r = -1 → CTs 60 y_M_feed [.ref 98, .long x, .int a3] σ (fun r' σ2 => oI (some (.int r)) = oI r' ∧ Rel σ2) := fun q e => by
    subst e
    exact e_M_feed (t_M_feed_0 (p_in0 q (o0 ⟨rfl, h⟩)))
  refine ite2 (fun q => m0 (Or.inl q) rfl) (fun q1 => ite2 (fun q8 => ?_) (fun q => m0 (Or.inr (Int32.not_le.mp q)) rfl))
  obtain ⟨m, hm8, rfl⟩ := nI_of2 (M := 8) (n := 8) rfl (fun z => q1 (Int32.lt_trans z (by decide))) q8
  have hm1 : 1 ≤ m := by
    rcases Nat.eq_zero_or_pos m with e | e
    · subst e; exact absurd (by decide) q1
    · exact e
  rw [f1, nI_add]
  by_cases hfit : f + m ≤ 300
  · refine ifp (nI_le (b := 300) hfit (by omega)) ?_
    have mgo : ∀ (τ : Hp) (K : Po), τ.1 98 4 = nI f → (∀ u, u.2 = τ.2 → (∀ c, c ≠ 101 → c ≠ 98 → u.1 c = τ.1 c) → u.1 98 = upd (τ.1 98) 4 (nI (f + m)) → u.1 101 = FedB x f m (τ.1 101) → K (some (.int (nI (f + m)))) u) → CTs 60 y_M_feed [.ref 98, .long x, .int (nI m)] τ K := by
      intro τ K t1 k
      refine e_M_feed (t_M_feed_0 (p_in1 (fun z => absurd z (nI_nlt (b := 1) hm1 (by omega))) (fun z => absurd z (nI_nlt (a := 8) hm8 (by omega))) (o1 ?_)))
      rw [t1, nI_add]
      refine ifp (nI_le (b := 300) hfit (by omega)) ?_
      have key : ∀ c j u, j + c = m → u.2 = τ.2 → (∀ c, c ≠ 101 → c ≠ 98 → u.1 c = τ.1 c) → u.1 98 = upd (τ.1 98) 4 (nI (f + j)) → u.1 101 = FedB x f j (τ.1 101) → WP c_M_feed (CTs 59) K (30, [(0, .ref 98), (1, .long x), (3, .int (nI m)), (4, .int (nI j))], []) u := by
        intro c
        induction c with
        | zero =>
          intro j u hj u1 u2 u3 u4
          obtain rfl : j = m := by omega
          refine t_M_feed_30 (ifp (Int32.le_refl _) ?_)
          rw [u3, pk_us]
          exact k u u1 u2 u3 u4
        | succ c ih =>
          intro j u hj u1 u2 u3 u4
          refine t_M_feed_30 (ifn (nI_ge (by omega) (by omega)) ?_)
          have e4 : u.1 98 4 = nI (f + j) := by rw [u3, pk_us]
          rw [e4, nI_clamp (by omega), nI_1, nI_1]
          refine ⟨vp_in_nI (by omega) (by omega), ih (j + 1) _ (by omega) u1 (fun c h1 h2 => ?_) ?_ ?_⟩
          · rw [sI_r, if_neg h2, sI_r, if_neg h1]; exact u2 c h1 h2
          · show upd (u.1 98) 4 (nI (f + j + 1)) = _
            rw [u3]
            funext i
            rw [upd_r, upd_r, upd_r]
            by_cases e : i = 4
            · rw [if_pos e, if_pos e]; rfl
            · rw [if_neg e, if_neg e, if_neg e]
          · show upd (u.1 101) (f + j) (byM x j) = _
            rw [u4, ← by_eq x (by omega)]
            exact FedB_st
      refine key m 0 τ (by omega) rfl (fun _ _ _ => rfl) ?_ ?_
      · funext i
        rw [upd_r]
        by_cases e : i = 4
        · rw [if_pos e, e]; exact t1
        · rw [if_neg e]
      · funext j
        unfold FedB
        rw [if_neg (by omega)]
    have key : ∀ c j u, j + c = m → u.2 = σ.2 → (∀ c, c ≠ 2 → u.1 c = σ.1 c) → u.1 2 = FedB x f j (σ.1 2) → WP c_SS_feed (CTs 59) (fun r σ1 => CTs 60 y_M_feed [.ref 98, .long x, .int (nI m)] σ1 (fun r' σ2 => oI r = oI r' ∧ Rel σ2)) (34, [(0, .ref 0), (1, .long x), (3, .int (nI m)), (4, .int (nI j))], []) u := by
      intro c
      induction c with
      | zero =>
        intro j u hj u1 u2 u4
        obtain rfl : j = m := by omega
        refine t_SS_feed_34 (ifp (Int32.le_refl _) ?_)
        rw [u2 1 (by decide), f1, nI_add]
        refine mgo _ _ ?_ (fun v v1 v2 v3 v4 => ⟨rfl, ?_⟩)
        · show u.1 98 4 = _
          rw [u2 98 (by decide)]; exact f2
        have w1 : v.2 = σ.2 := v1.trans u1
        have w2 : ∀ c, c ≠ 101 → c ≠ 98 → c ≠ 1 → c ≠ 2 → v.1 c = σ.1 c := fun c h1 h2 h3 h4 => by rw [v2 c h1 h2, sI_r, if_neg h3]; exact u2 c h4
        have w3 : v.1 98 = upd (σ.1 98) 4 (nI (f + j)) := by rw [v3]; show upd (u.1 98) 4 _ = _; rw [u2 98 (by decide)]
        have w4 : v.1 1 = upd (σ.1 1) 1 (nI (f + j)) := by rw [v2 1 (by decide) (by decide)]; show upd (u.1 1) 1 _ = _; rw [u2 1 (by decide)]
        have w5 : v.1 2 = FedB x f j (σ.1 2) := by rw [v2 2 (by decide) (by decide)]; exact u4
        have w6 : v.1 101 = FedB x f j (σ.1 101) := by rw [v4]; show FedB x f j (u.1 101) = _; rw [u2 101 (by decide)]
        have sg : ∀ {rows : List Nat} {fl : List (Nat × Nat)} {lr : List Nat} {lf : List (Nat × Nat)}, rows.all (fun c => !(Nat.beq c 101) && !(Nat.beq c 98) && !(Nat.beq c 1) && !(Nat.beq c 2)) = true → fl.all (fun q => !(Nat.beq q.1 101) && !(Nat.beq q.1 2) && !(Nat.beq q.1 98 && Nat.beq q.2 4) && !(Nat.beq q.1 1 && Nat.beq q.2 1)) = true → SameG rows fl lr lf σ v := by
          intro rows fl lr lf hrows hfl
          refine SameG.of (fun c hc => ?_) (fun q hq => ?_) w1
          · have := List.all_eq_true.mp hrows c hc
            simp only [Bool.and_eq_true, Bool.not_eq_true'] at this
            exact w2 c (nbq this.1.1.1) (nbq this.1.1.2) (nbq this.1.2) (nbq this.2)
          · have := List.all_eq_true.mp hfl q hq
            simp only [Bool.and_eq_true, Bool.not_eq_true', Bool.and_eq_false_iff] at this
            obtain ⟨⟨⟨i1, i2⟩, i3⟩, i4⟩ := this
            by_cases e : q.1 = 98
            · rw [e, w3, pk_un]
              rcases i3 with z | z
              · exact absurd e (nbq z)
              · exact nbq z
            · by_cases e' : q.1 = 1
              · rw [e', w4, pk_un]
                rcases i4 with z | z
                · exact absurd e' (nbq z)
                · exact nbq z
              · rw [w2 q.1 (nbq i1) e e' (nbq i2)]
        refine ⟨⟨n, now, ne, hc.same (sg rfl rfl)⟩, ?_, hkp.same (sg rfl rfl)⟩
        unfold RRest
        rw [w5, w6, w4, w3, w1, w2 0 (by decide) (by decide) (by decide) (by decide), w2 81 (by decide) (by decide) (by decide) (by decide), w2 118 (by decide) (by decide) (by decide) (by decide), w2 82 (by decide) (by decide) (by decide) (by decide), w2 83 (by decide) (by decide) (by decide) (by decide), w2 84 (by decide) (by decide) (by decide) (by decide), w2 119 (by decide) (by decide) (by decide) (by decide), w2 120 (by decide) (by decide) (by decide) (by decide), w2 85 (by decide) (by decide) (by decide) (by decide), w2 86 (by decide) (by decide) (by decide) (by decide), w2 87 (by decide) (by decide) (by decide) (by decide), w2 122 (by decide) (by decide) (by decide) (by decide), w2 123 (by decide) (by decide) (by decide) (by decide), w2 124 (by decide) (by decide) (by decide) (by decide), w2 88 (by decide) (by decide) (by decide) (by decide), w2 89 (by decide) (by decide) (by decide) (by decide), w2 125 (by decide) (by decide) (by decide) (by decide)]
        refine ⟨⟨f + j, by omega, rfl, rfl, fun i hi => ?_⟩, g2, g3, g4, g5, g6⟩
        unfold FedB
        by_cases e : f ≤ i ∧ i < f + j
        · rw [if_pos e, if_pos e]
          exact ⟨rfl, by_lt x (i - f)⟩
        · rw [if_neg e, if_neg e]
          exact ft i (by omega)
      | succ c ih =>
        intro j u hj u1 u2 u4
        refine t_SS_feed_34 (ifn (nI_ge (by omega) (by omega)) ?_)
        rw [u2 1 (by decide), f1, nI_add, nI_clamp (by omega), nI_1]
        refine ⟨vp_in_nI (by omega) (by omega), ih (j + 1) _ (by omega) u1 (fun c h1 => ?_) ?_⟩
        · rw [sI_r, if_neg h1]; exact u2 c h1
        · show upd (u.1 2) (f + j) (byC x j) = _
          rw [u4]
          exact FedB_st
    refine key m 0 σ (by omega) rfl (fun _ _ => rfl) ?_
    funext j
    unfold FedB
    rw [if_neg (by omega)]
  · have hno : ¬ nI (f + m) ≤ 300 := nI_ge (a := 300) (by omega) (by omega)
    refine ifn hno (e_M_feed (t_M_feed_0 (p_in1 (fun z => absurd z (nI_nlt (b := 1) hm1 (by omega))) (fun z => absurd z (nI_nlt (a := 8) hm8 (by omega))) (o1 (ifn ?_ ⟨rfl, h⟩)))))
    rw [f2, nI_add]
    exact hno
