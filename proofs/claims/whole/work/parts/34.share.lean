/-! ===== the class's world: shares, and all that is worked out ===== -/
theorem cmp_pos' {a b : Int64} (h : b < a) : 0 < lg_cmp a b := (lg_cmp_gt a b).mpr h
theorem p_fillL {d : Nat} {K : Po} {σ : Hp} {c0 : Nat} {v : Int64} (hs : c0 = 54 ∨ c0 = 65) (q : ∀ τ : Hp, τ.1 = σ.1 → (∀ c, c ≠ c0 → τ.2 c = σ.2 c) → (∀ j, j < 16 → τ.2 c0 j = v) → K none τ) : CTs (d + 1) y_Ar_fillL [.ref c0, .long v] σ K := by
  refine e_Ar_fillL hs (t_Ar_fillL_0 hs ?_)
  have key : ∀ (c k : Nat) (τ : Hp), k + c = 16 → τ.1 = σ.1 → (∀ c, c ≠ c0 → τ.2 c = σ.2 c) → (∀ j, j < k → τ.2 c0 j = v) → WP c_Ar_fillL (CTs d) K (6, [(0, .ref c0), (1, .long v), (3, .int (nI k)), (4, .int (nI 16))], []) τ := by
    intro c
    induction c with
    | zero =>
      intro k τ hk t1 t2 tv
      have ek : k = 16 := by omega
      subst ek
      exact t_Ar_fillL_6 hs (ifp (Int32.le_refl _) (q τ t1 t2 tv))
    | succ c ih =>
      intro k τ hk t1 t2 tv
      refine t_Ar_fillL_6 hs (ifn (nI_ge (by omega) (by omega)) ⟨vp_in_nI (by omega) (by omega), ?_⟩)
      rw [nI_1, nI_clamp (by omega)]
      refine ih (k + 1) _ (by omega) t1 (fun c hc => by rw [sL_l, if_neg hc]; exact t2 c hc) (fun j hj => ?_)
      rw [sL_l, if_pos rfl, updL_r]
      by_cases e : j = k
      · rw [if_pos e]
      · rw [if_neg e]; exact tv j (by omega)
  exact key 16 0 σ rfl rfl (fun _ _ => rfl) (fun j hj => absurd hj (by omega))
theorem ne9 {n : Nat} (h : n < 2 ^ 31) : ¬ (-9 : Int32) = nI n := fun e => by
  have := congrArg Int32.toInt e
  rw [nI_toInt h, show (-9 : Int32).toInt = -9 from rfl] at this
  omega
/-- what a stream's end may be -/
def EndO (n : Nat) (th : Nat → Int32) (w : Nat) : Prop := ∀ i, i < n → th (20 * i) = 3 → th (20 * i + w) = -9 ∨ ∃ j, j < n ∧ th (20 * i + w) = nI j ∧ th (20 * j) = 1
theorem TW.e4 {n : Nat} {th sg : Nat → Int32} (tw : TW n th sg) : EndO n th 4 := fun i hi _ => by
  rcases (tw.2 i hi).2.2.1 with e | ⟨-, j, hj, e1, e2⟩
  · exact Or.inl e
  · exact Or.inr ⟨j, by omega, e1, e2⟩
theorem TW.e5 {n : Nat} {th sg : Nat → Int32} (tw : TW n th sg) : EndO n th 5 := fun i hi _ => by
  rcases (tw.2 i hi).2.2.2.1 with e | ⟨-, j, hj, e1, e2⟩
  · exact Or.inl e
  · exact Or.inr ⟨j, by omega, e1, e2⟩
set_option maxHeartbeats 1000000 in
theorem p_share {d : Nat} {K : Po} {σ : Hp} {n w : Nat} {th V : Nat → Int32} (hw : w = 45 ∨ w = 56) (h16 : n ≤ 16) (hn : σ.1 3 0 = nI n) (hk : ∀ i, i < n → σ.1 4 i = th (20 * i)) (hf : ∀ i, i < n → σ.1 7 i = th (20 * i + 4)) (hend : EndO n th 4) (hV : ∀ i, i < n → σ.1 (w + 5) i = V i) (hst : ∀ j, j < n → th (20 * j) = 1 → σ.1 (w + 4) j = V j ∧ ∃ a, a ≤ 999999 ∧ V j = nI a)
    (q : ∀ τ : Hp, (∀ c, c ≠ w + 6 → τ.1 c = σ.1 c) → (∀ c, c ≠ w + 9 → τ.2 c = σ.2 c) → (∀ i, i < n → th (20 * i) = 3 → τ.1 (w + 6) i = fl1 n th V i) → K none τ) : CTs (d + 3) y_Wo_share [.ref w, .ref 3] σ K := by
  have hw9 : w + 9 = 54 ∨ w + 9 = 65 := by omega
  refine e_Wo_share hw (t_Wo_share_0 hw (p_fillL hw9 (fun σ1 s1 s2 s0 => ?_)))
  have key2 : ∀ (c k : Nat) (τ : Hp), k + c = n → (∀ c, c ≠ w + 6 → τ.1 c = σ.1 c) → (∀ c, c ≠ w + 9 → τ.2 c = σ.2 c) → (∀ j, j < n → τ.2 (w + 9) j = allS n th V (nI j)) → (∀ i, i < k → th (20 * i) = 3 → τ.1 (w + 6) i = fl1 n th V i) → WP c_Wo_share (CTs (d + 2)) K (70, [(0, .ref w), (1, .ref 3), (2, .int (nI k))], []) τ := by
    intro c
    induction c with
    | zero =>
      intro k τ hkn t1 t2 ta tf
      have ek : k = n := by omega
      rw [ek] at tf ⊢
      refine t_Wo_share_70 hw ?_
      rw [t1 3 (by omega), hn]
      exact ifp (Int32.le_refl _) (q τ t1 t2 tf)
    | succ c ih =>
      intro k τ hkn t1 t2 ta tf
      have hk' : k < n := by omega
      have hv : vp_in (nI k) 16 := vp_in_nI (by omega) (by omega)
      refine t_Wo_share_70 hw ?_
      rw [t1 3 (by omega), hn, t1 4 (by omega), t1 7 (by omega), t1 (w + 5) (by omega), nI_1, nI_clamp (by omega), hk k hk', hf k hk', hV k hk']
      refine ifn (nI_ge (by omega) (by omega)) ⟨hv, hv, ite2 (fun e3 => ⟨hv, hv, ?_⟩) (fun e3 => ?_)⟩
      · have go : ∀ v, v = fl1 n th V k → WP c_Wo_share (CTs (d + 2)) K (70, [(0, .ref w), (1, .ref 3), (2, .int (nI (k + 1)))], []) (sI (sI τ (w + 6) k 0) (w + 6) k v) := by
          intro v ev
          refine ih (k + 1) _ (by omega) (fun c hc => by rw [sI_r, if_neg hc, sI_r, if_neg hc]; exact t1 c hc) t2 ta (fun i hi e => ?_)
          rw [sI_r, if_pos rfl, upd_r]
          by_cases ei : i = k
          · rw [if_pos ei, ei]; exact ev
          · rw [if_neg ei, sI_r, if_pos rfl, upd_r, if_neg ei]; exact tf i (by omega) e
        have hn' : (sI τ (w + 6) k 0).1 3 0 = nI n := by rw [sI_r, if_neg (by omega), t1 3 (by omega)]; exact hn
        refine e_Wo_shareOf hw (t_Wo_shareOf_0 hw ?_)
        unfold fl1 at go
        rcases hend k hk' e3 with e | ⟨j, hj, e, ej⟩
        · rw [e] at go ⊢
          exact p_has0 (Or.inl rfl) hn' (Or.inl (by decide)) (o0 ⟨hv, go _ (by rw [if_pos (by decide)]; rfl)⟩)
        · rw [e, show sN (nI j) = j from nI_clamp (by omega), if_neg (nI_pos (by omega))] at go
          rw [e]
          have hvj : vp_in (nI j) 16 := vp_in_nI (by omega) (by omega)
          refine p_has1 (Or.inl rfl) hn' h16 hj (o1 ⟨hvj, hvj, ?_⟩)
          obtain ⟨hh, a, ha, hja⟩ := hst j hj ej
          have hh' : (sI τ (w + 6) k 0).1 (w + 4) j = V j := by rw [sI_r, if_neg (by omega), t1 (w + 4) (by omega)]; exact hh
          have hL : (sI τ (w + 6) k 0).2 (w + 9) j = allS n th V (nI j) := ta j hj
          rw [nI_clamp (by omega), hh', hL]
          refine ite2 (fun hc => ⟨hv, go _ ?_⟩) (fun hc => ⟨hvj, ifp ?_ ⟨hvj, hvj, ?_, hv, go _ ?_⟩⟩)
          · rw [if_neg (Int64.not_lt.mpr ((lg_cmp_le _ _).mp hc))]; rfl
          · have hlt : (V j).toInt64 < allS n th V (nI j) := Int64.not_le.mp (fun z => hc ((lg_cmp_le _ _).mpr z))
            refine cmp_pos' (Int64.lt_of_le_of_lt ?_ hlt)
            rw [hja, nI_l (by omega)]
            exact (lN_le (a := 0) (by omega) (by omega)).mpr (by omega)
          · have hlt : (V j).toInt64 < allS n th V (nI j) := Int64.not_le.mp (fun z => hc ((lg_cmp_le _ _).mpr z))
            intro z
            rw [z, hja, nI_l (by omega)] at hlt
            exact absurd ((lN_lt (b := 0) (by omega) (by omega)).mp hlt) (by omega)
          · have hlt : (V j).toInt64 < allS n th V (nI j) := Int64.not_le.mp (fun z => hc ((lg_cmp_le _ _).mpr z))
            rw [if_pos hlt]; rfl
      · refine ih (k + 1) _ (by omega) (fun c hc => by rw [sI_r, if_neg hc]; exact t1 c hc) t2 ta (fun i hi e => ?_)
        rw [sI_r, if_pos rfl, upd_r, if_neg (fun z => e3 (by rw [← z]; exact e))]
        exact tf i (by have : i ≠ k := fun z => e3 (by rw [← z]; exact e)
                       omega) e
  have key1 : ∀ (c k : Nat) (τ : Hp), k + c = n → τ.1 = σ.1 → (∀ c, c ≠ w + 9 → τ.2 c = σ.2 c) → (∀ j, j < n → τ.2 (w + 9) j = allS k th V (nI j)) → WP c_Wo_share (CTs (d + 2)) K (10, [(0, .ref w), (1, .ref 3), (2, .int (nI k))], []) τ := by
    intro c
    induction c with
    | zero =>
      intro k τ hkn t1 t2 ta
      have ek : k = n := by omega
      rw [ek] at ta ⊢
      refine t_Wo_share_10 hw ?_
      rw [t1, hn]
      exact ifp (Int32.le_refl _) (key2 n 0 τ (by omega) (fun c _ => by rw [t1]) t2 ta (fun i hi => absurd hi (by omega)))
    | succ c ih =>
      intro k τ hkn t1 t2 ta
      have hk' : k < n := by omega
      have hv : vp_in (nI k) 16 := vp_in_nI (by omega) (by omega)
      refine t_Wo_share_10 hw ?_
      rw [t1, hn, nI_1, nI_clamp (by omega), hk k hk', hf k hk']
      have up : ∀ j, allS (k + 1) th V (nI j) = allS k th V (nI j) + (if th (20 * k) = 3 ∧ th (20 * k + 4) = nI j then (V k).toInt64 else 0) := fun _ => rfl
      refine ifn (nI_ge (by omega) (by omega)) ⟨hv, ite2 (fun e3 => ⟨hv, ?_⟩) (fun e3 => ?_)⟩
      · rcases hend k hk' e3 with e | ⟨j, hj, e, ej⟩
        · rw [e]
          refine p_has0 (Or.inl rfl) (by rw [t1]; exact hn) (Or.inl (by decide)) (o0 (ih (k + 1) τ (by omega) t1 t2 (fun j hj => ?_)))
          rw [up, if_neg (fun z => ne9 (n := j) (by omega) (e.symm.trans z.2)), Int64.add_zero]; exact ta j hj
        · rw [e]
          have hvj : vp_in (nI j) 16 := vp_in_nI (by omega) (by omega)
          refine p_has1 (Or.inl rfl) (by rw [t1]; exact hn) h16 hj (o1 ?_)
          rw [t1, hf k hk', e, hV k hk', nI_clamp (by omega)]
          refine ⟨hv, hvj, hv, hvj, ih (k + 1) _ (by omega) t1 (fun c hc => by rw [sL_l, if_neg hc]; exact t2 c hc) (fun i hi => ?_)⟩
          rw [sL_l, if_pos rfl, updL_r, up]
          by_cases eij : i = j
          · rw [if_pos eij, eij, if_pos ⟨e3, e⟩, ta j hj]
          · rw [if_neg eij, if_neg (fun z => eij ((nI_eq (by omega) (by omega)).mp (z.2.symm.trans e))), Int64.add_zero]
            exact ta i hi
      · refine ih (k + 1) τ (by omega) t1 t2 (fun j hj => ?_)
        rw [up, if_neg (fun z => e3 z.1), Int64.add_zero]; exact ta j hj
  exact key1 n 0 σ1 (by omega) s1 s2 (fun j hj => s0 j (by omega))
/-- the class's world beside what is worked out of it -/
def CB (n : Nat) (th am mem : Nat → Int32) (now ne : Nat) (ev : Nat → Int32) (W : Nat → Nat → Int32) : Prop :=
  W 0 0 = nI now ∧ W 0 4 = nI ne ∧ (∀ e, e < ne → W 1 e = ev (3 * e) ∧ W 2 e = ev (3 * e + 1) ∧ W 3 e = ev (3 * e + 2)) ∧
  (∀ i, i < n → (th (20 * i) = 1 ∨ th (20 * i) = 5) → W 4 i = am i) ∧
  (∀ i, i < n → th (20 * i) = 2 → ∀ s, s < now → now ≤ s + sN (th (20 * i + 3)) → W 8 (9 * i + s % sN (th (20 * i + 3))) = mem (10 * i + s % 10))
def CV (n : Nat) (th sg V : Nat → Int32) (W : Nat → Nat → Int32) : Prop :=
  (∀ i, i < n → W 5 i = V i) ∧ (∀ i, i < n → th (20 * i) = 3 → W 6 i = fl1 n th V i) ∧ (∀ i, i < n → th (20 * i) = 2 → W 7 i = wrk th sg V i)
theorem CW.split {n : Nat} {th sg am mem : Nat → Int32} {now ne : Nat} {ev : Nat → Int32} {W : Nat → Nat → Int32} : CW n th sg am mem now ne ev W ↔ CB n th am mem now ne ev W ∧ CV n th sg (vto th sg am mem now n) W :=
  ⟨fun ⟨a, b, c, d, e, f, g, h⟩ => ⟨⟨a, b, c, d, h⟩, e, f, g⟩, fun ⟨⟨a, b, c, d, h⟩, e, f, g⟩ => ⟨a, b, c, d, e, f, g, h⟩⟩
theorem pk_rem' {a d : Nat} (ha : a < 2 ^ 31) (h0 : 0 < d) (hd : d < 2 ^ 31) : nI a - nI a / nI d * nI d = nI (a % d) := pk_rem ha h0 hd
theorem p_slot {d : Nat} {K : Po} {σ : Hp} {w i N now : Nat} (hw : w = 45 ∨ w = 56) (hi : i < 16) (hN : σ.1 6 i = nI N) (N1 : 1 ≤ N) (N9 : N ≤ 9) (hnow : σ.1 w 0 = nI now) (h20 : now < 2 ^ 20) (q : K (some (.int (nI (9 * i + now % N)))) σ) : CTs (d + 1) y_Wo_memorySlot [.ref w, .ref 3, .int (nI i)] σ K := by
  refine e_Wo_memorySlot hw (t_Wo_memorySlot_0 hw ⟨vp_in_nI (by omega) (by omega), ?_⟩)
  have e : nI i * 9 + nI (now % N) = nI (9 * i + now % N) := by rw [show (9 : Int32) = nI 9 from rfl, pk_mul, nI_add, Nat.mul_comm]
  rw [nI_clamp (by omega), hN, hnow, pk_rem' (by omega) (by omega) (by omega), e]
  exact ifn (nI_nle (by omega) (by omega)) (ifn (nI_nlt (a := 9) N9 (by omega)) ⟨nI_ne0 (by omega) (by omega), q⟩)
