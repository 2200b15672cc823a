/-! ===== the reference reads things: from the = on ===== -/
theorem b197 {Q : Po} {b : Nat → Nat} {m : Nat} {σ00 : Hp} {ρ : Rho} {n c j kd nm lg : Nat} {fr to : Option Nat} {R : Nat → Int32} {σ : Hp} (hm : m ≤ 300) (hb : ∀ k, k < m → b k < 256) (hn : n < 16) (v : VL ρ n c j) (hkd : 1 ≤ kd ∧ kd ≤ 6) (hR0 : R 0 = nI kd) (hR1 : R 1 = nI nm) (hR2 : R 2 = nI lg) (hR3 : R 3 = 0) (hR4 : R 4 = eI fr) (hR5 : R 5 = eI to) (h : MN b m σ00 ρ n c j [] R σ)
    (q1 : ∀ j' r, pTail b m ρ n c kd nm lg fr to j = .ok (j', r) → ∀ τ : Hp, MBt b m σ00 (updR ρ n r) (n + 1) (c + r.s.length) j' τ → Q none τ)
    (q0 : ∀ k jf, pTail b m ρ n c kd nm lg fr to j = .error (k, jf) → ∀ τ : Hp, MFt σ00 k (tk b m jf).2.1 τ → Q none τ) : WP c_M_wantThing (CTs 10) Q (197, [(0, .ref 98), (1, .int (nI kd)), (2, .int (nI (20 * n)))], []) σ := by
  have tb := fun j => tk_TB hm hb j
  have hc6 : ∀ i, i < n → (ρ i).kd = 4 → (ρ i).cs.length ≤ 6 := fun i hi h4 => ((v.2.2.1 i hi).1.2.2.2.2.2.2.2.2.2.2 h4).2.1
  obtain ⟨v6, e6⟩ := ix20 (n := n) (w := 6) hn (by decide)
  obtain ⟨v3, e3⟩ := ix20 (n := n) (w := 3) hn (by decide)
  have v7 := (ix20 (n := n) (w := 7) hn (by decide)).1
  replace e6 : (nI (20 * n) + 6).toNatClampNeg = 20 * n + 6 := e6
  replace e3 : (nI (20 * n) + 3).toNatClampNeg = 20 * n + 3 := e3
  have tail : ∀ (k p : Nat) (τ : Hp), MFt σ00 k p τ → (∀ τ : Hp, MFt σ00 k p τ → Q none τ) → CTs 10 y_M_wantMark [.ref 98, .int 59] τ (fun _ σ3 => Q none (sI σ3 98 12 ((σ3.1 98 12) + 1))) := fun k p τ h2 q => rMark0 h2.n (q _ (h2.v (Or.inl rfl)))
  have ne : ∀ c : Nat, c < 2 ^ 31 → kd ≠ c → ¬ nI kd = nI c := fun c hc h z => h ((nI_eq (by omega) hc).mp z)
  unfold pTail at q1 q0
  refine t_M_wantThing_197 (rMark (c := 61) (tb j) h.1.2.1 h.1.2.2.2.2 h.1.2.2.1 (by decide) (fun h61 τ f k => ⟨v6, ?_⟩) (fun h61 => ⟨v6, ?_⟩))
  · rw [if_pos h61] at q1 q0
    have hj := isS_m h61
    have h1 := h.T f k
    have h14 : τ.1 98 14 = nI c := h1.2.1.2.1
    rw [e6, h14]
    have h2 := h1.w hc6 (w := 6) (v := nI c) (by decide)
    have u6 : ∀ w, w ≠ 6 → upd R 6 (nI c) w = R w := fun w hw => by rw [upd_r, if_neg hw]
    have rm : RMs kd nm lg c fr to (upd R 6 (nI c)) := ⟨(u6 0 (by decide)).trans hR0, (u6 1 (by decide)).trans hR1, (u6 2 (by decide)).trans hR2, (u6 4 (by decide)).trans hR4, (u6 5 (by decide)).trans hR5, by rw [upd_r, if_pos rfl]⟩
    generalize sI τ 102 (20 * n + 6) (nI c) = τ2 at h2 ⊢
    have rm3 : ∀ x, RMs kd nm lg c fr to (upd (upd R 6 (nI c)) 3 x) := fun x => by
      obtain ⟨r0, r1, r2, r4, r5, r6⟩ := rm
      have u3 : ∀ w, w ≠ 3 → upd (upd R 6 (nI c)) 3 x w = upd R 6 (nI c) w := fun w hw => by rw [upd_r, if_neg hw]
      exact ⟨(u3 0 (by decide)).trans r0, (u3 1 (by decide)).trans r1, (u3 2 (by decide)).trans r2, (u3 4 (by decide)).trans r4, (u3 5 (by decide)).trans r5, (u3 6 (by decide)).trans r6⟩
    have cl : ∀ (j1 fi : Nat) (s : List Nat) (cs : List (Nat × Nat)) (R' : Nat → Int32) (τ3 : Hp) (vv : Int32), pBody b m ρ n kd (j + 1) = .ok (j1, fi, s, cs) → vv = nI (c + s.length) → RMs kd nm lg c fr to R' → (kd ≠ 4 → R' 3 = nI fi) → (kd = 4 → R' 3 = nI cs.length ∧ CR cs R') → MN b m σ00 ρ n c j1 s R' τ3 → vp_in (nI (20 * n) + 7) 320 ∧ CTs 10 y_M_wantMark [.ref 98, .int 59] (sI τ3 102 (nI (20 * n) + 7).toNatClampNeg vv) (fun _ σ3 => Q none (sI σ3 98 12 (σ3.1 98 12 + 1))) := fun j1 fi s cs R' τ3 vv hp hvv hr' h3 h4 hM => by
      obtain ⟨-, -, -, bv⟩ := pBody_ok hm hb (by omega) hp
      rw [hp] at q1 q0
      refine closeM (fi := fi) (cs := cs) (tb j1) hn hc6 (fun z => (bv.2.2.2.2.2 z).2.1) hvv hr' h3 h4 hM (fun h59 τ4 hB => q1 (j1 + 1) _ (if_pos h59) τ4 hB) (fun h59 τ4 hF => q0 1 j1 (if_neg h59) τ4 hF)
    have er : ∀ kf jf, pBody b m ρ n kd (j + 1) = .error (kf, jf) → ∀ τ : Hp, MFt σ00 kf (tk b m jf).2.1 τ → Q none τ := fun kf jf hp => q0 kf jf (by rw [hp])
    have num : (kd = 1 ∨ kd = 5) → CTs 10 y_M_wantNumber [.ref 98, .int 0, .int 99999] τ2 (fun r2 σ2 => vp_in (nI (20 * n) + 3) 320 ∧ (vp_in (nI (20 * n) + 7) 320 ∧ (CTs 10 y_M_wantMark [.ref 98, .int 59] (sI (sI σ2 102 (nI (20 * n) + 3).toNatClampNeg (oI r2)) 102 (nI (20 * n) + 7).toNatClampNeg (σ2.1 98 14)) (fun _ σ3 => Q none (sI σ3 98 12 ((σ3.1 98 12) + 1)))))) := fun hk => by
      have hp : pBody b m ρ n kd (j + 1) = (if isNu b (tk b m (j + 1)) 0 99999 then .ok (j + 1 + 1, dv b (tk b m (j + 1)), [], []) else .error (1, j + 1)) := if_pos hk
      refine rNum (lo := 0) (hi := 99999) (tb _) h2.1.2.1 h2.1.2.2.2.2 h2.1.2.2.1 (by decide) (by decide) (fun hN τ3 f3 k3 => ⟨v3, ?_⟩) (fun hN => ⟨v3, v7, tail _ _ _ (h2.1.f (k := 1) (by decide) (by decide)).w.w (er 1 (j + 1) (hp.trans (if_neg hN)))⟩)
      rw [e3]
      have h3 := h2.T f3 k3
      have h4 := h3.w hc6 (w := 3) (v := nI (dv b (tk b m (j + 1)))) (by decide)
      exact cl (j + 1 + 1) (dv b (tk b m (j + 1))) [] [] _ _ _ (hp.trans (if_pos hN)) h3.2.1.2.1 (rm3 _) (fun _ => by rw [upd_r, if_pos rfl]) (fun z => by omega) h4
    have eE : ∀ (j0 fi : Nat) (R' : Nat → Int32) (τ3 : Hp), j ≤ j0 → j0 ≤ m → MN b m σ00 ρ n c j0 [] R' τ3 → RMs kd nm lg c fr to R' → R' 3 = nI fi → kd ≠ 4 → (∀ j' s, pExp b m (pOne b m (fdR ρ n) (tbR ρ) 4) j0 = .ok (j', s) → pBody b m ρ n kd (j + 1) = .ok (j', fi, s, [])) → (∀ k jf, pExp b m (pOne b m (fdR ρ n) (tbR ρ) 4) j0 = .error (k, jf) → pBody b m ρ n kd (j + 1) = .error (k, jf)) → CTs 10 y_M_wantE [.ref 98] τ3 (fun _ σ8 => vp_in (nI (20 * n) + 7) 320 ∧ (CTs 10 y_M_wantMark [.ref 98, .int 59] (sI σ8 102 (nI (20 * n) + 7).toNatClampNeg (σ8.1 98 14)) (fun _ σ9 => Q none (sI σ9 98 12 ((σ9.1 98 12) + 1))))) := fun j0 fi R' τ3 hj0 hj0m hM hr' h3' k4 p1 p0 => by
      refine p_mE hm hb hn ⟨v.1, by have := v.2.1; omega, v.2.2.1, v.2.2.2⟩ hj0m hM (fun j' s hs τ4 hM4 => ?_) (fun j' s hs h59 τ4 hF => ?_) (fun kf jf hs _ _ τ4 hF => ⟨v7, tail _ _ _ hF.w (er kf jf (p0 kf jf hs))⟩)
      · exact cl j' fi s [] R' τ4 _ (p1 j' s hs) hM4.2.1.2.1 hr' (fun _ => h3') (fun z => absurd z k4) hM4
      · refine ⟨v7, tail _ _ _ hF.w (q0 1 j' ?_)⟩
        rw [p1 j' s hs]
        exact if_neg h59
    by_cases k1 : kd = 1
    · exact ifp (by rw [k1]; rfl) (num (Or.inl k1))
    refine ifn (ne 1 (by decide) k1) ?_
    by_cases k5 : kd = 5
    · exact ifp (by rw [k5]; rfl) (num (Or.inr k5))
    refine ifn (ne 5 (by decide) k5) ?_
    by_cases k4 : kd = 4
    · have hp : pBody b m ρ n kd (j + 1) = (match pCors b m 6 [] (j + 1) with
        | .error e => .error e
        | .ok (j', cs) => .ok (j', 0, [], cs)) := by
        unfold pBody
        rw [if_neg (by omega), if_neg (by omega), if_pos k4]
        rfl
      refine ifp (by rw [k4]; rfl) (e_M_wantCorners (t_M_wantCorners_0 ?_))
      refine p_mCors (c := c) (s := []) tb hn hc6 6 (j + 1) [] _ τ2 (-1) rfl (by decide) ⟨fun k hk => absurd hk (Nat.not_lt_zero _), fun k hk => absurd hk (Nat.not_lt_zero _)⟩ (fun k hk => absurd hk (Nat.not_lt_zero _)) h2 (fun _ => rfl) (fun z => absurd z (by decide)) (fun j' cs hs R' τ3 hw hr3 hcr hM => ?_) (fun kf jf hs τ3 hF => ⟨v7, tail _ _ _ hF.w (er kf jf (by rw [hp, hs]))⟩)
      obtain ⟨r0, r1, r2, r4, r5, r6⟩ := rm
      exact cl j' 0 [] cs R' τ3 _ (by rw [hp, hs]) hM.2.1.2.1 ⟨(hw 0 (by decide) (by decide)).trans r0, (hw 1 (by decide) (by decide)).trans r1, (hw 2 (by decide) (by decide)).trans r2, (hw 4 (by decide) (by decide)).trans r4, (hw 5 (by decide) (by decide)).trans r5, (hw 6 (by decide) (by decide)).trans r6⟩ (fun z => absurd k4 z) (fun _ => ⟨hr3, hcr⟩) hM
    refine ifn (ne 4 (by decide) k4) ?_
    by_cases k2 : kd = 2
    · have hp : pBody b m ρ n kd (j + 1) = (if isNu b (tk b m (j + 1)) 1 9 then (if isK b (tk b m (j + 1 + 1)) 411 then (match pExp b m (pOne b m (fdR ρ n) (tbR ρ) 4) (j + 1 + 2) with
        | .error e => .error e
        | .ok (j', s) => .ok (j', dv b (tk b m (j + 1)), s, [])) else .error (1, j + 1 + 1)) else .error (1, j + 1)) := by
        unfold pBody
        rw [if_neg (by omega), if_pos k2]
        rfl
      refine ifp (by rw [k2]; rfl) (rNum (lo := 1) (hi := 9) (tb _) h2.1.2.1 h2.1.2.2.2.2 h2.1.2.2.1 (by decide) (by decide) (fun hN τ3 f3 k3 => ⟨v3, ?_⟩) (fun hN => ⟨v3, ?_⟩))
      · rw [e3]
        have h3 := h2.T f3 k3
        have h4 := h3.w hc6 (w := 3) (v := nI (dv b (tk b m (j + 1)))) (by decide)
        refine rWord (c := 411) (tb _) h4.1.2.1 h4.1.2.2.2.2 h4.1.2.2.1 (by decide) (fun hK τ4 f4 k4' => ?_) (fun hK => ?_)
        · have h5 := h4.T f4 k4'
          have hjm := isK_m hK
          refine eE (j + 1 + 1 + 1) (dv b (tk b m (j + 1))) _ τ4 (by omega) (by omega) h5 (rm3 _) (by rw [upd_r, if_pos rfl]) k4 (fun j' s hs => ?_) (fun kf jf hs => ?_)
          · replace hs : pExp b m (pOne b m (fdR ρ n) (tbR ρ) 4) (j + 1 + 2) = .ok (j', s) := hs
            rw [hp, if_pos hN, if_pos hK, hs]
          · replace hs : pExp b m (pOne b m (fdR ρ n) (tbR ρ) 4) (j + 1 + 2) = .error (kf, jf) := hs
            rw [hp, if_pos hN, if_pos hK, hs]
        · have hF := h4.1.f (k := 1) (by decide) (by decide)
          exact fWantE hF (fun τ5 hF5 => ⟨v7, tail _ _ _ hF5.w (er 1 (j + 1 + 1) (hp.trans ((if_pos hN).trans (if_neg hK))))⟩)
      · have hF := (h2.1.f (k := 1) (by decide) (by decide)).w (x := (nI (20 * n) + 3).toNatClampNeg) (v := 0)
        exact rWord0 hF.n (fWantE hF (fun τ5 hF5 => ⟨v7, tail _ _ _ hF5.w (er 1 (j + 1) (hp.trans (if_neg hN)))⟩))
    · refine ifn (ne 2 (by decide) k2) ?_
      have hp : pBody b m ρ n kd (j + 1) = (match pExp b m (pOne b m (fdR ρ n) (tbR ρ) 4) (j + 1) with
        | .error e => .error e
        | .ok (j', s) => .ok (j', 0, s, [])) := by
        unfold pBody
        rw [if_neg (by omega), if_neg k2, if_neg k4]
        rfl
      exact eE (j + 1) 0 _ τ2 (by omega) (by omega) h2 rm ((u6 3 (by decide)).trans hR3) k4 (fun j' s hs => by rw [hp, hs]) (fun kf jf hs => by rw [hp, hs])
  · have hF := h.1.f (k := 1) (by decide) (by decide)
    have q := q0 1 j (if_neg h61)
    refine ite2 (fun _ => ?_) (fun _ => ite2 (fun _ => ?_) (fun _ => ite2 (fun _ => ?_) (fun _ => ite2 (fun _ => ?_) (fun _ => ?_))))
    · exact rNum0 hF.w.n ⟨v3, v7, tail _ _ _ hF.w.w.w q⟩
    · exact rNum0 hF.w.n ⟨v3, v7, tail _ _ _ hF.w.w.w q⟩
    · exact fCorners hF.w ⟨v7, tail _ _ _ hF.w.w q⟩
    · exact rNum0 hF.w.n ⟨v3, rWord0 hF.w.w.n (fWantE hF.w.w (fun τ h2 => ⟨v7, tail _ _ _ h2.w q⟩))⟩
    · exact fWantE hF.w (fun τ h2 => ⟨v7, tail _ _ _ h2.w q⟩)
