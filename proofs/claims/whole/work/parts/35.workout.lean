/-! ===== workOut ===== -/
theorem CX.n {n : Nat} {th sg : Nat → Int32} {σ : Hp} (cx : CX n th sg (fun j => σ.1 (3 + j))) : σ.1 3 0 = nI n := cx.1
theorem CX.k {n : Nat} {th sg : Nat → Int32} {σ : Hp} (cx : CX n th sg (fun j => σ.1 (3 + j))) {i : Nat} (hi : i < n) : σ.1 4 i = th (20 * i) := (cx.2.1 i hi).1
theorem CX.f4 {n : Nat} {th sg : Nat → Int32} {σ : Hp} (cx : CX n th sg (fun j => σ.1 (3 + j))) {i : Nat} (hi : i < n) : σ.1 7 i = th (20 * i + 4) := (cx.2.1 i hi).2.2.1
theorem CX.f5 {n : Nat} {th sg : Nat → Int32} {σ : Hp} (cx : CX n th sg (fun j => σ.1 (3 + j))) {i : Nat} (hi : i < n) : σ.1 8 i = th (20 * i + 5) := (cx.2.1 i hi).2.2.2.1
theorem CX.s6 {n : Nat} {th sg : Nat → Int32} {σ : Hp} (cx : CX n th sg (fun j => σ.1 (3 + j))) {i : Nat} (hi : i < n) : σ.1 9 i = th (20 * i + 6) := (cx.2.1 i hi).2.2.2.2.1
theorem CX.s7 {n : Nat} {th sg : Nat → Int32} {σ : Hp} (cx : CX n th sg (fun j => σ.1 (3 + j))) {i : Nat} (hi : i < n) : σ.1 10 i = th (20 * i + 7) := (cx.2.1 i hi).2.2.2.2.2.1
theorem CX.mv {n : Nat} {th sg : Nat → Int32} {σ : Hp} (cx : CX n th sg (fun j => σ.1 (3 + j))) {i : Nat} (hi : i < n) : σ.1 11 i = mvd n th sg i := (cx.2.1 i hi).2.2.2.2.2.2.1
theorem CX.t3 {n : Nat} {th sg : Nat → Int32} {σ : Hp} (cx : CX n th sg (fun j => σ.1 (3 + j))) {i : Nat} (hi : i < n) (h : th (20 * i) ≠ 4) : σ.1 6 i = th (20 * i + 3) := (cx.2.1 i hi).2.2.2.2.2.2.2.1 h
theorem CX.cd {n : Nat} {th sg : Nat → Int32} {σ : Hp} (cx : CX n th sg (fun j => σ.1 (3 + j))) (tw : TW n th sg) {i a b : Nat} (hi : i < n) (hb : th (20 * i + 7) = nI b) (h3 : b ≤ 300) (hsg : ∀ k, a ≤ k → k < b → ∃ s, s < 400002 ∧ sg k = nI s) : ∀ k, a ≤ k → k < b → ∃ s, s < 400002 ∧ sg k = nI s ∧ σ.1 15 k = nI (cwN s) := by
  intro k h1 h2
  obtain ⟨s, hs, es⟩ := hsg k h1 h2
  obtain ⟨z, hz, -, hzi, hc⟩ := cx.2.2
  have := hzi i hi
  rw [hb, show sN (nI b) = b from nI_clamp (by omega)] at this
  refine ⟨s, hs, es, ?_⟩
  have h := hc k (by omega)
  rw [es, show sN (nI s) = s from nI_clamp (by omega)] at h
  exact h
/-- the text stays where other cells change -/
theorem CX.off {n : Nat} {th sg : Nat → Int32} {σ τ : Hp} (cx : CX n th sg (fun j => σ.1 (3 + j))) (h : ∀ c, 3 ≤ c → c ≤ 15 → τ.1 c = σ.1 c) : CX n th sg (fun j => τ.1 (3 + j)) := cx.cong (by show τ.1 3 0 = σ.1 3 0; rw [h 3 (by omega) (by omega)]) (by show τ.1 3 1 = σ.1 3 1; rw [h 3 (by omega) (by omega)]) (fun j h1 h2 => h (3 + j) (by omega) (by omega))
/-- worked, over a text and a row of values that is right as far as i -/
theorem p_worked' {d : Nat} {K : Po} {σ : Hp} {n w i : Nat} {th sg V : Nat → Int32} (hw : w = 45 ∨ w = 56) (tw : TW n th sg) (cx : CX n th sg (fun j => σ.1 (3 + j))) (hi : i < n) (hk : th (20 * i) = 2 ∨ th (20 * i) = 3 ∨ th (20 * i) = 6) (hV : ∀ j, j < i → σ.1 (w + 5) j = V j)
    (q : ∀ τ : Hp, τ.2 = σ.2 → (∀ c, c ≠ w + 10 → τ.1 c = σ.1 c) → K (some (.int (wrk th sg V i))) τ) : CTs (d + 3) y_Wo_worked [.ref w, .ref 3, .int (nI i)] σ K := by
  obtain ⟨a, b, hab, hb, ha6, hb7, hsg, hh⟩ := tw.hg hi
  have h16 := tw.1
  refine p_worked (th := th) (sg := sg) (a := a) (b := b) hw (by omega) ((cx.s6 hi).trans ha6) ((cx.s7 hi).trans hb7) hab hb (cx.cd tw hi hb7 hb hsg) (hh hk) (fun t ht h4 => ?_) (fun τ t2 t1 => ?_)
  · obtain ⟨c, ok⟩ := tw.tab (t := t) (by omega) h4
    exact ⟨c, ok, cx.tab (by omega) h4 ok.1 ok.2.2.1⟩
  · have := q τ t2 t1
    rw [← wrk_congr tw hi hk hV] at this
    unfold wrk at this
    rw [ha6, hb7, show sN (nI a) = a from nI_clamp (by omega), show sN (nI b) = b from nI_clamp (by omega)] at this
    exact this
set_option maxHeartbeats 1000000 in
theorem p_workOut {d : Nat} {K : Po} {σ : Hp} {n w now ne : Nat} {th sg am mem ev : Nat → Int32} (hw : w = 45 ∨ w = 56) (tw : TW n th sg) (cx : CX n th sg (fun j => σ.1 (3 + j))) (hst : ∀ i, i < n → th (20 * i) = 1 → ∃ a, a ≤ 999999 ∧ am i = nI a) (cb : CB n th am mem now ne ev (fun j => σ.1 (w + j))) (h20 : now < 2 ^ 20)
    (q : ∀ τ : Hp, (∀ c, c ≠ w + 5 → c ≠ w + 6 → c ≠ w + 7 → c ≠ w + 10 → τ.1 c = σ.1 c) → (∀ c, c ≠ w + 9 → τ.2 c = σ.2 c) → CV n th sg (vto th sg am mem now n) (fun j => τ.1 (w + j)) → K none τ) : CTs (d + 4) y_Wo_workOut [.ref w, .ref 3] σ K := by
  refine e_Wo_workOut hw (t_Wo_workOut_0 hw ?_)
  have h16 := tw.1
  have vfix : ∀ i, i < n → vto th sg am mem now n i = val1 th sg am mem now (vto th sg am mem now n) i := fun i hi => vv_fix tw hi
  generalize vto th sg am mem now n = V at q vfix
  have key : ∀ (c k : Nat) (τ : Hp), k + c = n → τ.2 = σ.2 → (∀ c, c ≠ w + 5 → c ≠ w + 7 → c ≠ w + 10 → τ.1 c = σ.1 c) → (∀ j, j < k → τ.1 (w + 5) j = V j) → (∀ j, j < k → th (20 * j) = 2 → τ.1 (w + 7) j = wrk th sg V j) → WP c_Wo_workOut (CTs (d + 3)) K (2, [(0, .ref w), (1, .ref 3), (2, .int (nI k))], []) τ := by
    intro c
    induction c with
    | zero =>
      intro k τ hk t2 t1 tv tf
      have ek : k = n := by omega
      rw [ek] at tv tf ⊢
      have cx' : CX n th sg (fun j => τ.1 (3 + j)) := cx.off (fun c h1 h2 => t1 c (by omega) (by omega) (by omega))
      refine t_Wo_workOut_2 hw ?_
      rw [cx'.n]
      refine ifp (Int32.le_refl _) (p_share (n := n) (th := th) (V := V) hw h16 cx'.n (fun i hi => cx'.k hi) (fun i hi => cx'.f4 hi) tw.e4 tv (fun j hj e1 => ?_) (fun u u1 u2 uf => ?_))
      · have ev : V j = am j := by rw [vfix j hj]; unfold val1; rw [if_pos (Or.inl e1)]
        obtain ⟨a, ha, hja⟩ := hst j hj e1
        refine ⟨?_, a, ha, ev.trans hja⟩
        rw [t1 (w + 4) (by omega) (by omega) (by omega), ev]
        exact cb.2.2.2.1 j hj (Or.inl e1)
      · refine q u (fun c h1 h2 h3 h4 => (u1 c h2).trans (t1 c h1 h3 h4)) (fun c hc => by rw [u2 c hc, t2]) ⟨fun i hi => ?_, uf, fun i hi e => ?_⟩
        · show u.1 (w + 5) i = V i
          rw [u1 (w + 5) (by omega)]; exact tv i hi
        · show u.1 (w + 7) i = _
          rw [u1 (w + 7) (by omega)]; exact tf i hi e
    | succ c ih =>
      intro k τ hk t2 t1 tv tf
      have hk' : k < n := by omega
      have hv : vp_in (nI k) 16 := vp_in_nI (by omega) (by omega)
      have hcl : (nI k).toNatClampNeg = k := nI_clamp (by omega)
      have fix := vfix k hk'
      have cx' : CX n th sg (fun j => τ.1 (3 + j)) := cx.off (fun c h1 h2 => t1 c (by omega) (by omega) (by omega))
      have adv : ∀ (τ' : Hp) (v : Int32), τ'.2 = σ.2 → (∀ c, c ≠ w + 5 → c ≠ w + 7 → c ≠ w + 10 → τ'.1 c = σ.1 c) → (∀ j, j < k → τ'.1 (w + 5) j = V j) → (∀ j, j < k → th (20 * j) = 2 → τ'.1 (w + 7) j = wrk th sg V j) → (th (20 * k) = 2 → τ'.1 (w + 7) k = wrk th sg V k) → v = V k → WP c_Wo_workOut (CTs (d + 3)) K (2, [(0, .ref w), (1, .ref 3), (2, .int (nI (k + 1)))], []) (sI τ' (w + 5) k v) := by
        intro τ' v a2 a1 av af af' ev
        refine ih (k + 1) _ (by omega) a2 (fun c h1 h2 h3 => by rw [sI_r, if_neg h1]; exact a1 c h1 h2 h3) (fun j hj => ?_) (fun j hj h2 => ?_)
        · rw [sI_r, if_pos rfl, upd_r]
          by_cases e : j = k
          · rw [if_pos e, e]; exact ev
          · rw [if_neg e]; exact av j (by omega)
        · rw [sI_r, if_neg (by omega)]
          by_cases e : j = k
          · subst e; exact af' h2
          · exact af j (by omega) h2
      have adw : ∀ (τ' : Hp) (v : Int32), τ'.2 = τ.2 → (∀ c, c ≠ w + 10 → τ'.1 c = τ.1 c) → ¬ th (20 * k) = 2 → v = V k → WP c_Wo_workOut (CTs (d + 3)) K (2, [(0, .ref w), (1, .ref 3), (2, .int (nI (k + 1)))], []) (sI τ' (w + 5) k v) := by
        intro τ' v a2 a1 h2 ev
        exact adv τ' v (a2.trans t2) (fun c h1 h2 h3 => (a1 c h3).trans (t1 c h1 h2 h3)) (fun j hj => by rw [a1 (w + 5) (by omega)]; exact tv j hj) (fun j hj e => by rw [a1 (w + 7) (by omega)]; exact tf j hj e) (fun e => absurd e h2) ev
      have held : (th (20 * k) = 1 ∨ th (20 * k) = 5) → τ.1 (w + 4) k = V k := fun e => by
        rw [t1 (w + 4) (by omega) (by omega) (by omega), fix]; unfold val1; rw [if_pos e]
        exact cb.2.2.2.1 k hk' e
      refine t_Wo_workOut_2 hw ?_
      rw [cx'.n, nI_1, hcl, cx'.k hk']
      refine ifn (nI_ge (by omega) (by omega)) ⟨hv, ?_⟩
      rcases kind6 tw hk' with e | e | e | e | e | e
      · exact ifp e ⟨hv, hv, adw τ _ rfl (fun _ _ => rfl) (dif e (by decide)) (held (Or.inl e))⟩
      · refine ifn (dif e (by decide)) (ifp e (p_worked' hw tw cx' hk' (Or.inl e) tv (fun τ' a2 a1 => ⟨hv, hv, ?_⟩)))
        obtain ⟨N, N1, N9, hN⟩ := (tw.2 k hk').2.2.2.2.2.1 e
        have s6 : τ'.1 6 k = nI N := by rw [a1 6 (by omega), cx'.t3 hk' (dif e (by decide))]; exact hN
        have s0 : τ'.1 w 0 = nI now := by rw [a1 w (by omega), t1 w (by omega) (by omega) (by omega)]; exact cb.1
        rw [s6, s0]
        have fin : ∀ v : Int32, v = V k → WP c_Wo_workOut (CTs (d + 3)) K (2, [(0, .ref w), (1, .ref 3), (2, .int (nI (k + 1)))], []) (sI (sI τ' (w + 7) k (wrk th sg V k)) (w + 5) k v) := by
          intro v ev
          refine adv (sI τ' (w + 7) k (wrk th sg V k)) v (a2.trans t2) (fun c h1 h2 h3 => by rw [sI_r, if_neg h2]; exact (a1 c h3).trans (t1 c h1 h2 h3)) (fun j hj => by rw [sI_r, if_neg (by omega), a1 (w + 5) (by omega)]; exact tv j hj) (fun j hj e2 => by rw [sI_r, if_pos rfl, upd_r, if_neg (by omega), a1 (w + 7) (by omega)]; exact tf j hj e2) (fun _ => by rw [sI_r, if_pos rfl, pk_us]) ev
        by_cases hle : N ≤ now
        · refine ifp (nI_le hle (by omega)) (p_slot (N := N) (now := now) hw (by omega) (by rw [sI_r, if_neg (by omega)]; exact s6) N1 N9 (by rw [sI_r, if_neg (by omega)]; exact s0) h20 ?_)
          have hm : now % N < N := Nat.mod_lt _ (by omega)
          have hcl2 : (oI (some (.int (nI (9 * k + now % N))))).toNatClampNeg = 9 * k + now % N := nI_clamp (by omega)
          refine ⟨vp_in_nI (by omega) (by omega), hv, ?_⟩
          rw [hcl2]
          refine fin _ ?_
          rw [sI_r, if_neg (by omega), a1 (w + 8) (by omega), t1 (w + 8) (by omega) (by omega) (by omega), fix]; unfold val1; rw [if_neg (by rw [e]; decide), if_neg (dif e (by decide)), if_neg (dif e (by decide)), if_pos e, hN, show sN (nI N) = N from nI_clamp (by omega), if_neg (by omega)]
          have := cb.2.2.2.2 k hk' e (now - N) (by omega)
          rw [hN, show sN (nI N) = N from nI_clamp (by omega)] at this
          have h2 := this (by omega)
          rw [show (now - N) % N = now % N from (Nat.mod_eq_sub_mod hle).symm] at h2
          exact h2
        · refine ifn (nI_ge (by omega) (by omega)) ⟨hv, fin _ ?_⟩
          rw [fix]; unfold val1; rw [if_neg (by rw [e]; decide), if_neg (dif e (by decide)), if_neg (dif e (by decide)), if_pos e, hN, show sN (nI N) = N from nI_clamp (by omega), if_pos (by omega)]
      · refine ifn (dif e (by decide)) (ifn (dif e (by decide)) (ifp e (p_worked' hw tw cx' hk' (Or.inr (Or.inl e)) tv (fun τ' a2 a1 => ⟨hv, adw τ' _ a2 a1 (dif e (by decide)) ?_⟩))))
        show (if 0 < wrk th sg V k then wrk th sg V k else 0) = V k
        have hval : V k = if wrk th sg V k < 0 then 0 else wrk th sg V k := by
          rw [fix]; unfold val1; rw [if_neg (by rw [e]; decide), if_neg (dif e (by decide)), if_pos e]
        rw [hval]
        by_cases h0 : wrk th sg V k < 0
        · rw [if_pos h0, if_neg (fun z => Int32.lt_irrefl (Int32.lt_trans h0 z))]
        · rw [if_neg h0]
          by_cases h1 : 0 < wrk th sg V k
          · rw [if_pos h1]
          · rw [if_neg h1]; exact Int32.le_antisymm (Int32.not_lt.mp h0) (Int32.not_lt.mp h1)
      · refine ifn (dif e (by decide)) (ifn (dif e (by decide)) (ifn (dif e (by decide)) (ifp e ⟨hv, adw τ _ rfl (fun _ _ => rfl) (dif e (by decide)) ?_⟩)))
        rw [fix]; unfold val1; rw [if_neg (by rw [e]; decide), if_neg (dif e (by decide)), if_neg (dif e (by decide)), if_neg (dif e (by decide))]
      · exact ifn (dif e (by decide)) (ifn (dif e (by decide)) (ifn (dif e (by decide)) (ifn (dif e (by decide)) (ifp e ⟨hv, hv, adw τ _ rfl (fun _ _ => rfl) (dif e (by decide)) (held (Or.inr e))⟩))))
      · refine ifn (dif e (by decide)) (ifn (dif e (by decide)) (ifn (dif e (by decide)) (ifn (dif e (by decide)) (ifn (dif e (by decide)) (ifp e (p_worked' hw tw cx' hk' (Or.inr (Or.inr e)) tv (fun τ' a2 a1 => ⟨hv, adw τ' _ a2 a1 (dif e (by decide)) ?_⟩)))))))
        rw [fix]; unfold val1; rw [if_neg (by rw [e]; decide), if_pos e]; rfl
  exact key n 0 σ (by omega) rfl (fun _ _ _ _ => rfl) (fun j hj => absurd hj (by omega)) (fun j hj => absurd hj (by omega))
