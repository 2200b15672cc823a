/-! ===== what values come to ===== -/
theorem ev1_congr {th V U : Nat → Int32} {s : Nat} {l : List Int32} (h : 100000 ≤ s → s < 200000 → V (s - 100000) = U (s - 100000)) : ev1 th V s l = ev1 th U s l := by
  unfold ev1
  by_cases h1 : s < 100000
  · rw [if_pos h1, if_pos h1]
  · rw [if_neg h1, if_neg h1]
    by_cases h2 : s < 200000
    · rw [if_pos h2, if_pos h2, h (by omega) h2]
    · rw [if_neg h2, if_neg h2]
theorem evs_congr {th sg V U : Nat → Int32} {i : Nat} (hV : ∀ j, j < i → V j = U j) : ∀ (c k h h' : Nat) (l : List Int32), hgs th sg i c k h = some h' → evs th sg V c k l = evs th sg U c k l := by
  intro c
  induction c with
  | zero => intros; rfl
  | succ c ih =>
    intro k h h' l hh
    unfold hgs at hh
    cases hg : hg1 th i (sN (sg k)) h with
    | none => rw [hg] at hh; cases hh
    | some h1 =>
      rw [hg] at hh
      unfold evs
      have e : ev1 th V (sN (sg k)) l = ev1 th U (sN (sg k)) l := ev1_congr (fun a b => by
        rcases hg1_cases hg with ⟨e1, _⟩ | ⟨j, e1, e2, _⟩ | ⟨t, _, e2, _⟩ | ⟨e1, _⟩ | ⟨e1, _⟩
        · omega
        · rw [e2, show 100000 + j - 100000 = j by omega]; exact hV j e1
        · omega
        · omega
        · rcases e1 with e | e | e | e | e | e | e <;> omega)
      rw [e]
      exact ih (k + 1) h1 h' _ hh
theorem TW.hg {n : Nat} {th sg : Nat → Int32} (tw : TW n th sg) {i : Nat} (hi : i < n) : ∃ a b, a ≤ b ∧ b ≤ 300 ∧ th (20 * i + 6) = nI a ∧ th (20 * i + 7) = nI b ∧ (∀ k, a ≤ k → k < b → ∃ s, s < 400002 ∧ sg k = nI s) ∧ ((th (20 * i) = 2 ∨ th (20 * i) = 3 ∨ th (20 * i) = 6) → hgs th sg i (b - a) a 0 = some 1) := (tw.2 i hi).2.2.2.2.1
theorem wrk_congr {n : Nat} {th sg V U : Nat → Int32} (tw : TW n th sg) {i : Nat} (hi : i < n) (hk : th (20 * i) = 2 ∨ th (20 * i) = 3 ∨ th (20 * i) = 6) (hV : ∀ j, j < i → V j = U j) : wrk th sg V i = wrk th sg U i := by
  obtain ⟨a, b, hab, hb, ha6, hb7, -, hh⟩ := tw.hg hi
  unfold wrk
  rw [ha6, hb7, show sN (nI a) = a from nI_clamp (by omega), show sN (nI b) = b from nI_clamp (by omega), evs_congr hV (b - a) a 0 1 [] (hh hk)]
theorem TW.tab {n : Nat} {th sg : Nat → Int32} (tw : TW n th sg) {t : Nat} (ht : t < n) (h4 : th (20 * t) = 4) : ∃ c, TabOK th t c := by
  obtain ⟨c, c2, c6, hc, at0, h1, h2, -⟩ := (tw.2 t ht).2.2.2.2.2.2.2 h4
  refine ⟨c, hc, c2, c6, fun k k1 kc => ?_⟩
  obtain ⟨j, rfl⟩ : ∃ j, k = j + 1 := ⟨k - 1, by omega⟩
  have a1 := h1 (j + 1) kc
  have a0 := h1 j (by omega)
  have l := h2 j kc
  rw [show 20 * t + 8 + 2 * (j + 1) - 2 = 20 * t + 8 + 2 * j by omega, a1.2, a0.2, pk_sub (by omega), nI_l (by omega)]
  exact (lN_lt (a := 0) (by omega) (by omega)).mpr (by omega)
theorem CX.tab {n : Nat} {th sg : Nat → Int32} {σ : Hp} (cx : CX n th sg (fun j => σ.1 (3 + j))) {t c : Nat} (ht : t < n) (h4 : th (20 * t) = 4) (hc : th (20 * t + 3) = nI c) (h6 : c ≤ 6) : TabC σ th t c := by
  obtain ⟨-, -, -, -, -, -, -, -, h⟩ := cx.2.1 t ht
  obtain ⟨h1, h2⟩ := h h4
  exact ⟨h1.trans hc, fun k hk => h2 k (by rw [hc, show sN (nI c) = c from nI_clamp (by omega)]; exact hk)⟩
theorem val1_congr {n : Nat} {th sg am mem : Nat → Int32} {now : Nat} {V U : Nat → Int32} (tw : TW n th sg) {i : Nat} (hi : i < n) (hV : ∀ j, j < i → V j = U j) : val1 th sg am mem now V i = val1 th sg am mem now U i := by
  unfold val1
  by_cases h1 : th (20 * i) = 1 ∨ th (20 * i) = 5
  · rw [if_pos h1, if_pos h1]
  · rw [if_neg h1, if_neg h1]
    by_cases h6 : th (20 * i) = 6
    · rw [if_pos h6, if_pos h6]; exact wrk_congr tw hi (Or.inr (Or.inr h6)) hV
    · rw [if_neg h6, if_neg h6]
      by_cases h3 : th (20 * i) = 3
      · rw [if_pos h3, if_pos h3, wrk_congr tw hi (Or.inr (Or.inl h3)) hV]
      · rw [if_neg h3, if_neg h3]
theorem vto_up {th sg am mem : Nat → Int32} {now : Nat} : ∀ m k j, j < k → vto th sg am mem now (k + m) j = vto th sg am mem now k j := by
  intro m
  induction m with
  | zero => intros; rfl
  | succ m ih =>
    intro k j h
    show upd _ (k + m) _ j = _
    rw [pk_un (by omega)]
    exact ih k j h
theorem vv_fix {n : Nat} {th sg am mem : Nat → Int32} {now : Nat} (tw : TW n th sg) {i : Nat} (hi : i < n) : vto th sg am mem now n i = val1 th sg am mem now (vto th sg am mem now n) i := by
  have e1 : vto th sg am mem now n i = vto th sg am mem now (i + 1) i := by
    have := vto_up (th := th) (sg := sg) (am := am) (mem := mem) (now := now) (n - (i + 1)) (i + 1) i (by omega)
    rw [show i + 1 + (n - (i + 1)) = n by omega] at this
    exact this
  have e2 : ∀ j, j < i → vto th sg am mem now i j = vto th sg am mem now n j := fun j hj => by
    have := vto_up (th := th) (sg := sg) (am := am) (mem := mem) (now := now) (n - i) i j hj
    rw [show i + (n - i) = n by omega] at this
    exact this.symm
  rw [e1]
  show upd _ i _ i = _
  rw [pk_us]
  exact val1_congr tw hi e2
theorem kind6 {n : Nat} {th sg : Nat → Int32} (tw : TW n th sg) {i : Nat} (hi : i < n) : th (20 * i) = 1 ∨ th (20 * i) = 2 ∨ th (20 * i) = 3 ∨ th (20 * i) = 4 ∨ th (20 * i) = 5 ∨ th (20 * i) = 6 := by
  obtain ⟨k, k1, k6, h⟩ := (tw.2 i hi).1
  match k, k1, k6, h with
  | 1, _, _, h => exact Or.inl h
  | 2, _, _, h => exact Or.inr (Or.inl h)
  | 3, _, _, h => exact Or.inr (Or.inr (Or.inl h))
  | 4, _, _, h => exact Or.inr (Or.inr (Or.inr (Or.inl h)))
  | 5, _, _, h => exact Or.inr (Or.inr (Or.inr (Or.inr (Or.inl h))))
  | 6, _, _, h => exact Or.inr (Or.inr (Or.inr (Or.inr (Or.inr h))))
theorem dif {x a b : Int32} (e : x = a) (h : a ≠ b) : ¬ x = b := fun e2 => h (e.symm.trans e2)
set_option maxHeartbeats 1000000 in
theorem p_findValues {d : Nat} {K : Po} {σ : Hp} {n now : Nat} (hn : σ.1 98 0 = nI n) (hnow : σ.1 98 19 = nI now) (h20 : now < 2 ^ 20) (tw : TW n (σ.1 99) (σ.1 100))
    (q : ∀ τ : Hp, τ.2 = σ.2 → (∀ c, c ≠ 109 → c ≠ 110 → c ≠ 111 → τ.1 c = σ.1 c) → (∀ j, j < n → τ.1 110 j = vto (σ.1 99) (σ.1 100) (σ.1 105) (σ.1 106) now n j) → (∀ j, j < n → σ.1 99 (20 * j) = 2 → τ.1 111 j = wrk (σ.1 99) (σ.1 100) (vto (σ.1 99) (σ.1 100) (σ.1 105) (σ.1 106) now n) j) → K none τ) : CTs (d + 4) y_M_findValues [.ref 98] σ K := by
  refine e_M_findValues (t_M_findValues_0 ?_)
  have h16 := tw.1
  have vfix : ∀ i, i < n → vto (σ.1 99) (σ.1 100) (σ.1 105) (σ.1 106) now n i = val1 (σ.1 99) (σ.1 100) (σ.1 105) (σ.1 106) now (vto (σ.1 99) (σ.1 100) (σ.1 105) (σ.1 106) now n) i := fun i hi => vv_fix tw hi
  generalize vto (σ.1 99) (σ.1 100) (σ.1 105) (σ.1 106) now n = V at q vfix
  have key : ∀ (c k : Nat) (τ : Hp), k + c = n → τ.2 = σ.2 → (∀ c, c ≠ 109 → c ≠ 110 → c ≠ 111 → τ.1 c = σ.1 c) → (∀ j, j < k → τ.1 110 j = V j) → (∀ j, j < k → σ.1 99 (20 * j) = 2 → τ.1 111 j = wrk (σ.1 99) (σ.1 100) V j) → WP c_M_findValues (CTs (d + 3)) K (2, [(0, .ref 98), (1, .int (nI k))], []) τ := by
    intro c
    induction c with
    | zero =>
      intro k τ hk t2 t1 tv tf
      have ek : k = n := by omega
      rw [ek] at tv tf ⊢
      refine t_M_findValues_2 ?_
      rw [t1 98 (by decide) (by decide) (by decide), hn]
      exact ifp (Int32.le_refl _) (q τ t2 t1 tv tf)
    | succ c ih =>
      intro k τ hk t2 t1 tv tf
      have hk' : k < n := by omega
      have hv : vp_in (nI k) 16 := vp_in_nI (by omega) (by omega)
      have hcl : (nI k).toNatClampNeg = k := nI_clamp (by omega)
      have fix := vfix k hk'
      have adv : ∀ (τ' : Hp) (v : Int32), τ'.2 = σ.2 → (∀ c, c ≠ 109 → c ≠ 110 → c ≠ 111 → τ'.1 c = σ.1 c) → (∀ j, j < k → τ'.1 110 j = V j) → (∀ j, j < k → σ.1 99 (20 * j) = 2 → τ'.1 111 j = wrk (σ.1 99) (σ.1 100) V j) → (σ.1 99 (20 * k) = 2 → τ'.1 111 k = wrk (σ.1 99) (σ.1 100) V k) → v = V k → WP c_M_findValues (CTs (d + 3)) K (2, [(0, .ref 98), (1, .int (nI (k + 1)))], []) (sI τ' 110 k v) := by
        intro τ' v a2 a1 av af af' ev
        refine ih (k + 1) _ (by omega) a2 (fun c h1 h2 h3 => by rw [sI_r, if_neg h2]; exact a1 c h1 h2 h3) (fun j hj => ?_) (fun j hj h2 => ?_)
        · rw [sI_r, if_pos rfl, upd_r]
          by_cases e : j = k
          · rw [if_pos e, e]; exact ev
          · rw [if_neg e]; exact av j (by omega)
        · rw [sI_r, if_neg (by decide)]
          by_cases e : j = k
          · subst e; exact af' h2
          · exact af j (by omega) h2
      obtain ⟨a, b, hab, hb, ha6, hb7, hsg, hh⟩ := tw.hg hk'
      have t99 : τ.1 99 = σ.1 99 := t1 99 (by decide) (by decide) (by decide)
      have t100 : τ.1 100 = σ.1 100 := t1 100 (by decide) (by decide) (by decide)
      have mw : ∀ K' : Po, (σ.1 99 (20 * k) = 2 ∨ σ.1 99 (20 * k) = 3 ∨ σ.1 99 (20 * k) = 6) → (∀ τ' : Hp, τ'.2 = σ.2 → (∀ c, c ≠ 109 → τ'.1 c = τ.1 c) → K' (some (.int (wrk (σ.1 99) (σ.1 100) V k))) τ') → CTs (d + 3) y_M_worked [.ref 98, .int (nI k)] τ K' := by
        intro K' hkk q'
        refine p_mworked (a := a) (b := b) (by omega) (by rw [t99]; exact ha6) (by rw [t99]; exact hb7) hab hb (by rw [t100]; exact hsg) (by rw [t99, t100]; exact hh hkk) (by rw [t99]; exact fun t ht h4 => tw.tab (by omega) h4) (fun τ' a2 a1 => ?_)
        rw [t99, t100, wrk_congr tw hk' hkk tv]
        exact q' τ' (a2.trans t2) a1
      have adw : ∀ (τ' : Hp) (v : Int32), τ'.2 = σ.2 → (∀ c, c ≠ 109 → τ'.1 c = τ.1 c) → ¬ σ.1 99 (20 * k) = 2 → v = V k → WP c_M_findValues (CTs (d + 3)) K (2, [(0, .ref 98), (1, .int (nI (k + 1)))], []) (sI τ' 110 k v) := by
        intro τ' v a2 a1 h2 ev
        exact adv τ' v a2 (fun c h1 h2 h3 => (a1 c h1).trans (t1 c h1 h2 h3)) (fun j hj => by rw [a1 110 (by decide)]; exact tv j hj) (fun j hj e => by rw [a1 111 (by decide)]; exact tf j hj e) (fun e => absurd e h2) ev
      refine t_M_findValues_2 ?_
      rw [t1 98 (by decide) (by decide) (by decide), hn]
      refine ifn (nI_ge (by omega) (by omega)) (p_of (w := 3) (by omega) (by omega) (p_of (w := 0) (by omega) (by omega) ?_))
      rw [nI_1, hcl, t99]
      rcases kind6 tw hk' with e | e | e | e | e | e
      · refine ifp e ⟨hv, hv, adw τ _ t2 (fun _ _ => rfl) (dif e (by decide)) ?_⟩
        rw [fix]; unfold val1; rw [if_pos (Or.inl e), t1 105 (by decide) (by decide) (by decide)]
      · refine ifn (dif e (by decide)) (ifp e (mw _ (Or.inl e) (fun τ' a2 a1 => ⟨hv, ?_⟩)))
        obtain ⟨N, N1, N9, hN⟩ := (tw.2 k hk').2.2.2.2.2.1 e
        have hr1 : oI (some (.int (σ.1 99 (20 * k + 3)))) = nI N := hN
        have s98 : τ'.1 98 = σ.1 98 := (a1 98 (by decide)).trans (t1 98 (by decide) (by decide) (by decide))
        have s106 : τ'.1 106 = σ.1 106 := (a1 106 (by decide)).trans (t1 106 (by decide) (by decide) (by decide))
        rw [hr1, s98, hnow, s106]
        have fin : ∀ v : Int32, v = V k → WP c_M_findValues (CTs (d + 3)) K (2, [(0, .ref 98), (1, .int (nI (k + 1)))], []) (sI (sI τ' 111 k (wrk (σ.1 99) (σ.1 100) V k)) 110 k v) := by
          intro v ev
          refine adv (sI τ' 111 k (wrk (σ.1 99) (σ.1 100) V k)) v a2 (fun c h1 h2 h3 => by rw [sI_r, if_neg h3]; exact (a1 c h1).trans (t1 c h1 h2 h3)) (fun j hj => by rw [sI_r, if_neg (by decide), a1 110 (by decide)]; exact tv j hj) (fun j hj e2 => by rw [sI_r, if_pos rfl, upd_r, if_neg (by omega), a1 111 (by decide)]; exact tf j hj e2) (fun _ => by rw [sI_r, if_pos rfl, pk_us]) ev
        by_cases hle : N ≤ now
        · have e1 : nI now - nI N - (nI now - nI N) / 10 * 10 = nI ((now - N) % 10) := by rw [pk_sub hle]; exact pk_rem (d := 10) (by omega) (by omega) (by omega)
          have e2 : (10 : Int32) * nI k + nI ((now - N) % 10) = nI (10 * k + (now - N) % 10) := by rw [show (10 : Int32) = nI 10 from rfl, pk_mul, nI_add]
          rw [e1, e2, nI_clamp (by omega)]
          refine ifp (nI_le hle (by omega)) ⟨by decide, vp_in_nI (by omega) (by omega), hv, fin _ ?_⟩
          rw [fix]; unfold val1; rw [if_neg (by rw [e]; decide), if_neg (dif e (by decide)), if_neg (dif e (by decide)), if_pos e, hN, show sN (nI N) = N from nI_clamp (by omega), if_neg (by omega)]
        · refine ifn (nI_ge (by omega) (by omega)) ⟨hv, fin _ ?_⟩
          rw [fix]; unfold val1; rw [if_neg (by rw [e]; decide), if_neg (dif e (by decide)), if_neg (dif e (by decide)), if_pos e, hN, show sN (nI N) = N from nI_clamp (by omega), if_pos (by omega)]
      · refine ifn (dif e (by decide)) (ifn (dif e (by decide)) (ifp e (mw _ (Or.inr (Or.inl e)) (fun τ' a2 a1 => ite2 (fun h0 => ⟨hv, adw τ' _ a2 a1 (dif e (by decide)) ?_⟩) (fun h0 => ⟨hv, adw τ' _ a2 a1 (dif e (by decide)) ?_⟩)))))
        · rw [fix]; unfold val1; rw [if_neg (by rw [e]; decide), if_neg (dif e (by decide)), if_pos e, if_neg (show ¬ wrk (σ.1 99) (σ.1 100) V k < 0 from Int32.not_lt.mpr h0)]; rfl
        · rw [fix]; unfold val1; rw [if_neg (by rw [e]; decide), if_neg (dif e (by decide)), if_pos e, if_pos (show wrk (σ.1 99) (σ.1 100) V k < 0 from Int32.not_le.mp h0)]
      · refine ifn (dif e (by decide)) (ifn (dif e (by decide)) (ifn (dif e (by decide)) (ifp e ⟨hv, adw τ _ t2 (fun _ _ => rfl) (dif e (by decide)) ?_⟩)))
        rw [fix]; unfold val1; rw [if_neg (by rw [e]; decide), if_neg (dif e (by decide)), if_neg (dif e (by decide)), if_neg (dif e (by decide))]
      · refine ifn (dif e (by decide)) (ifn (dif e (by decide)) (ifn (dif e (by decide)) (ifn (dif e (by decide)) (ifp e ⟨hv, hv, adw τ _ t2 (fun _ _ => rfl) (dif e (by decide)) ?_⟩))))
        rw [fix]; unfold val1; rw [if_pos (Or.inr e), t1 105 (by decide) (by decide) (by decide)]
      · refine ifn (dif e (by decide)) (ifn (dif e (by decide)) (ifn (dif e (by decide)) (ifn (dif e (by decide)) (ifn (dif e (by decide)) (ifp e (mw _ (Or.inr (Or.inr e)) (fun τ' a2 a1 => ⟨hv, adw τ' _ a2 a1 (dif e (by decide)) ?_⟩)))))))
        rw [fix]; unfold val1; rw [if_neg (by rw [e]; decide), if_pos e]; rfl
  exact key n 0 σ (by omega) rfl (fun _ _ _ _ => rfl) (fun j hj => absurd hj (by omega)) (fun j hj => absurd hj (by omega))
