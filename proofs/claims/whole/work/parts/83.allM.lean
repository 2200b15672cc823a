/-! ===== the reference reads things: all ===== -/
theorem p_thingM {Q : Po} {b : Nat → Nat} {m : Nat} {σ00 : Hp} {ρ : Rho} {n c j : Nat} {σ : Hp} (hm : m ≤ 300) (hb : ∀ k, k < m → b k < 256) (hn : n < 16) (v : VL ρ n c j) (h : MBt b m σ00 ρ n c j σ)
    (q1 : ∀ j' r, pThing b m ρ n c j = .ok (j', r) → ∀ τ : Hp, MBt b m σ00 (updR ρ n r) (n + 1) (c + r.s.length) j' τ → Q none τ)
    (q0 : ∀ k jf, pThing b m ρ n c j = .error (k, jf) → ∀ τ : Hp, MFt σ00 k (tk b m jf).2.1 τ → Q none τ) : CTs 11 y_M_wantThing [.ref 98] σ Q := by
  have tb := fun j => tk_TB hm hb j
  have hkT := kdT_le (b := b) (t := tk b m j)
  have hk6 : ∀ i, i < n → (ρ i).kd ≤ 6 := fun i hi => (v.2.2.1 i hi).1.1.2
  have hc6 : ∀ i, i < n → (ρ i).kd = 4 → (ρ i).cs.length ≤ 6 := fun i hi h4 => ((v.2.2.1 i hi).1.2.2.2.2.2.2.2.2.2.2 h4).2.1
  have vl : ∀ j', j ≤ j' → VL ρ n c j' := fun j' hj => ⟨v.1, by have := v.2.1; omega, v.2.2.1, v.2.2.2⟩
  obtain ⟨g, l⟩ := h
  have hg := g.2.2.1
  have mt := g.2.2.2.2
  have l1 : σ.1 98 12 = nI n := l.1
  refine e_M_wantThing (t_M_wantThing_0 (p_kindHere (tb j) mt ?_))
  rw [l1]
  refine ifn (nI_ge (a := n) (b := 16) (by omega) (by omega)) ?_
  by_cases h0 : kdT b (tk b m j) = 0
  · exact ifp (by rw [h0]; rfl) (rFaults (k := 1) hg mt (q0 1 j (if_pos h0) _ (g.f (by decide) (by decide))))
  refine ifn (fun z => h0 ((nI_eq (b := 0) (by omega) (by omega)).mp z)) (ifn (fun z => by have := (nI_eq (a := n) (b := 16) (by omega) (by omega)).mp z; omega) ?_)
  refine p_av g.2.1 mt (fun τ f k => ?_)
  have h1 : MN b m σ00 ρ n c (j + 1) [] (fun w => τ.1 102 (20 * n + w)) τ := by
    have hN0 : MN b m σ00 ρ n c j [] (fun w => σ.1 102 (20 * n + w)) σ := ⟨g, l, fun w _ => rfl⟩
    have := hN0.T f k
    exact ⟨this.1, this.2.1, fun w _ => rfl⟩
  have hg1 := h1.1.2.2.1
  have mt1 := h1.1.2.2.2.2
  have e20 : (20 : Int32) * nI n = nI (20 * n) := by rw [show (20 : Int32) = nI 20 from rfl, pk_mul]
  rw [e20]
  unfold pThing at q1 q0
  rw [if_neg h0] at q1 q0
  refine q_mNm (tb _) mt1 (fun hN => o1 ?_) (fun hN => o0 (rFaults (k := 1) hg1 mt1 ?_))
  · rw [if_pos hN] at q1 q0
    have hwv : wv b (tk b m (j + 1)) < 2 ^ 31 := by
      have := ((tb (j + 1)).2.2.2.1 hN.1).1
      have h27 : (27 : Nat) ^ 6 < 2 ^ 31 := by decide
      omega
    have hw : τ.2 98 8 = lN (wv b (tk b m (j + 1))) := by
      rw [mt1.2.2.2.1 hN.1, if_pos (by have := hN.2.1; omega)]
    refine p_mknown (fdR ρ n (wv b (tk b m (j + 1)))) h1.2.1.1 (by omega) hw (fun i => (v.u _ hwv i).trans ?_) (fun hf => ?_) (fun i hi hf => ?_) hwv
    · constructor
      · intro z; exact ⟨z.1, (h1.2.1.2.2.1 i z.1).2.1.trans z.2⟩
      · intro z; exact ⟨z.1, (h1.2.1.2.2.1 i z.1).2.1.symm.trans z.2⟩
    · rw [hf] at q1 q0
      replace q1 : ∀ j' r, (if kdT b (tk b m j) = 3 then (match pEnds b m ρ n (j + 2) with
          | .error e => (.error e : Except (Nat × Nat) (Nat × RcT))
          | .ok (fr, to) => pTail b m ρ n c 3 (wv b (tk b m (j + 1))) ((tk b m (j + 1)).2.2 - (tk b m (j + 1)).2.1) fr to (j + 6))
          else pTail b m ρ n c (kdT b (tk b m j)) (wv b (tk b m (j + 1))) ((tk b m (j + 1)).2.2 - (tk b m (j + 1)).2.1) none none (j + 2)) = .ok (j', r) → ∀ τ : Hp, MBt b m σ00 (updR ρ n r) (n + 1) (c + r.s.length) j' τ → Q none τ := q1
      replace q0 : ∀ k jf, (if kdT b (tk b m j) = 3 then (match pEnds b m ρ n (j + 2) with
          | .error e => (.error e : Except (Nat × Nat) (Nat × RcT))
          | .ok (fr, to) => pTail b m ρ n c 3 (wv b (tk b m (j + 1))) ((tk b m (j + 1)).2.2 - (tk b m (j + 1)).2.1) fr to (j + 6))
          else pTail b m ρ n c (kdT b (tk b m j)) (wv b (tk b m (j + 1))) ((tk b m (j + 1)).2.2 - (tk b m (j + 1)).2.1) none none (j + 2)) = .error (k, jf) → ∀ τ : Hp, MFt σ00 k (tk b m jf).2.1 τ → Q none τ := q0
      refine ifp (by decide) (t_M_wantThing_76 (rGood1 hg1 (o1 ?_)))
      have ix := fun (w : Nat) (hw : w < 20) => ix20 (n := n) (w := w) hn hw
      have c0 : (nI (20 * n)).toNatClampNeg = 20 * n + 0 := nI_clamp (n := 20 * n) (by omega)
      have c1 : (nI (20 * n) + 1).toNatClampNeg = 20 * n + 1 := (ix 1 (by decide)).2
      have c2 : (nI (20 * n) + 2).toNatClampNeg = 20 * n + 2 := (ix 2 (by decide)).2
      have c3 : (nI (20 * n) + 3).toNatClampNeg = 20 * n + 3 := (ix 3 (by decide)).2
      have c4 : (nI (20 * n) + 4).toNatClampNeg = 20 * n + 4 := (ix 4 (by decide)).2
      have c5 : (nI (20 * n) + 5).toNatClampNeg = 20 * n + 5 := (ix 5 (by decide)).2
      have hle := (tb (j + 1)).2.1
      rw [c0, c1, c2, c3, c4, c5, hw, lN_i, mt1.2.2.1, mt1.2.1, pk_sub hle]
      refine ⟨vp_in_nI (by omega) (by omega), (ix 1 (by decide)).1, (ix 2 (by decide)).1, (ix 3 (by decide)).1, (ix 4 (by decide)).1, (ix 5 (by decide)).1, ?_⟩
      have h6 := (((((h1.w hc6 (w := 0) (v := nI (kdT b (tk b m j))) (by decide)).w hc6 (w := 1) (v := nI (wv b (tk b m (j + 1)))) (by decide)).w hc6 (w := 2) (v := nI ((tk b m (j + 1)).2.2 - (tk b m (j + 1)).2.1)) (by decide)).w hc6 (w := 3) (v := 0) (by decide)).w hc6 (w := 4) (v := -9) (by decide)).w hc6 (w := 5) (v := -9) (by decide)
      refine p_av h6.1.2.1 h6.1.2.2.2.2 (fun τ2 f2 k2 => ?_)
      have h7 := h6.T f2 k2
      have hR : ∃ R : Nat → Int32, R 0 = nI (kdT b (tk b m j)) ∧ R 1 = nI (wv b (tk b m (j + 1))) ∧ R 2 = nI ((tk b m (j + 1)).2.2 - (tk b m (j + 1)).2.1) ∧ R 3 = 0 ∧ R 4 = -9 ∧ R 5 = -9 ∧ MN b m σ00 ρ n c (j + 2) [] R τ2 := by
        refine ⟨_, ?_, ?_, ?_, ?_, ?_, ?_, h7⟩
        all_goals simp only [upd_r]
        all_goals rfl
      obtain ⟨R, r0, r1, r2, r3, r4, r5, h8⟩ := hR
      by_cases hk3 : kdT b (tk b m j) = 3
      · rw [if_pos hk3] at q1 q0
        refine ifp (by rw [hk3]; rfl) ?_
        have v4 : vp_in (nI (20 * n) + 4) 320 := (ix 4 (by decide)).1
        have v5 : vp_in (nI (20 * n) + 5) 320 := (ix 5 (by decide)).1
        unfold pEnds at q1 q0
        refine rWord (c := 131638) (tb _) h8.1.2.1 h8.1.2.2.2.2 h8.1.2.2.1 (by decide) (fun hK τ3 f3 k3 => ?_) (fun hK => ?_)
        · rw [if_pos hK] at q1 q0
          have h9 := h8.T f3 k3
          refine p_mEnd (tb _) hn hk6 v.u h9 (fun fr hfr τ4 hA => ⟨v4, ?_⟩) (fun kf jf hfr vv τ4 hF => ⟨v4, ?_⟩)
          · replace hfr : pEnd b m ρ n (j + 2 + 1) = .ok fr := hfr
            rw [hfr] at q1 q0
            have hA2 := hA.w hc6 (w := 4) (v := eI fr) (by decide)
            refine rWord (c := 555) (tb _) hA2.1.2.1 hA2.1.2.2.2.2 hA2.1.2.2.1 (by decide) (fun hK2 τ5 f5 k5 => ?_) (fun hK2 => ?_)
            · have hA3 := hA2.T f5 k5
              replace hK2 : isK b (tk b m (j + 2 + 2)) 555 := hK2
              refine p_mEnd (tb _) hn hk6 v.u hA3 (fun to hto τ6 hC => ⟨v5, ?_⟩) (fun kf jf hto vv τ6 hF => ⟨v5, ?_⟩)
              · replace hto : pEnd b m ρ n (j + 2 + 3) = .ok to := hto
                have hpe : (if isK b (tk b m (j + 2 + 2)) 555 then (match pEnd b m ρ n (j + 2 + 3) with
                  | .error e => (.error e : Except (Nat × Nat) (Option Nat × Option Nat))
                  | .ok to => .ok (fr, to)) else .error (1, j + 2 + 2)) = .ok (fr, to) := by rw [if_pos hK2, hto]
                have hC2 := hC.w hc6 (w := 5) (v := eI to) (by decide)
                rw [hk3] at r0 ⊢
                refine b197 (kd := 3) (nm := wv b (tk b m (j + 1))) (lg := (tk b m (j + 1)).2.2 - (tk b m (j + 1)).2.1) (fr := fr) (to := to) hm hb hn (vl _ (by omega)) (by decide) ?_ ?_ ?_ ?_ ?_ ?_ hC2 (fun j' r hp => q1 j' r ?_) (fun kf jf hp => q0 kf jf ?_)
                · rw [upd_r, if_neg (by decide), upd_r, if_neg (by decide)]; exact r0
                · rw [upd_r, if_neg (by decide), upd_r, if_neg (by decide)]; exact r1
                · rw [upd_r, if_neg (by decide), upd_r, if_neg (by decide)]; exact r2
                · rw [upd_r, if_neg (by decide), upd_r, if_neg (by decide)]; exact r3
                · rw [upd_r, if_neg (by decide), upd_r, if_pos rfl]
                · rw [upd_r, if_pos rfl]
                · show (match (if isK b (tk b m (j + 2 + 2)) 555 then (match pEnd b m ρ n (j + 2 + 3) with
                    | .error e => (.error e : Except (Nat × Nat) (Option Nat × Option Nat))
                    | .ok to => .ok (fr, to)) else .error (1, j + 2 + 2)) with
                    | .error e => (.error e : Except (Nat × Nat) (Nat × RcT))
                    | .ok (fr, to) => pTail b m ρ n c 3 (wv b (tk b m (j + 1))) ((tk b m (j + 1)).2.2 - (tk b m (j + 1)).2.1) fr to (j + 6)) = .ok (j', r)
                  rw [hpe]
                  exact hp
                · show (match (if isK b (tk b m (j + 2 + 2)) 555 then (match pEnd b m ρ n (j + 2 + 3) with
                    | .error e => (.error e : Except (Nat × Nat) (Option Nat × Option Nat))
                    | .ok to => .ok (fr, to)) else .error (1, j + 2 + 2)) with
                    | .error e => (.error e : Except (Nat × Nat) (Nat × RcT))
                    | .ok (fr, to) => pTail b m ρ n c 3 (wv b (tk b m (j + 1))) ((tk b m (j + 1)).2.2 - (tk b m (j + 1)).2.1) fr to (j + 6)) = .error (kf, jf)
                  rw [hpe]
                  exact hp
              · replace hto : pEnd b m ρ n (j + 2 + 3) = .error (kf, jf) := hto
                refine f197 hn hF.w (q0 kf jf ?_)
                show (match (if isK b (tk b m (j + 2 + 2)) 555 then (match pEnd b m ρ n (j + 2 + 3) with
                    | .error e => (.error e : Except (Nat × Nat) (Option Nat × Option Nat))
                    | .ok to => .ok (fr, to)) else .error (1, j + 2 + 2)) with
                    | .error e => (.error e : Except (Nat × Nat) (Nat × RcT))
                    | .ok (fr, to) => pTail b m ρ n c 3 (wv b (tk b m (j + 1))) ((tk b m (j + 1)).2.2 - (tk b m (j + 1)).2.1) fr to (j + 6)) = .error (kf, jf)
                rw [if_pos hK2, hto]
            · replace hK2 : ¬ isK b (tk b m (j + 2 + 2)) 555 := hK2
              have hF := hA2.1.f (k := 1) (by decide) (by decide)
              refine fEnd hF ⟨v5, f197 hn hF.w (q0 1 (j + 2 + 2) ?_)⟩
              show (match (if isK b (tk b m (j + 2 + 2)) 555 then (match pEnd b m ρ n (j + 2 + 3) with
                    | .error e => (.error e : Except (Nat × Nat) (Option Nat × Option Nat))
                    | .ok to => .ok (fr, to)) else .error (1, j + 2 + 2)) with
                    | .error e => (.error e : Except (Nat × Nat) (Nat × RcT))
                    | .ok (fr, to) => pTail b m ρ n c 3 (wv b (tk b m (j + 1))) ((tk b m (j + 1)).2.2 - (tk b m (j + 1)).2.1) fr to (j + 6)) = .error (1, j + 2 + 2)
              rw [if_neg hK2]
          · replace hfr : pEnd b m ρ n (j + 2 + 1) = .error (kf, jf) := hfr
            exact rWord0 hF.w.n (fEnd hF.w ⟨v5, f197 hn hF.w.w (q0 kf jf (by rw [hfr]))⟩)
        · have hF := h8.1.f (k := 1) (by decide) (by decide)
          exact fEnd hF ⟨v4, rWord0 hF.w.n (fEnd hF.w ⟨v5, f197 hn hF.w.w (q0 1 (j + 2) (by rw [if_neg hK]))⟩)⟩
      · rw [if_neg hk3] at q1 q0
        refine ifn (fun z => hk3 ((nI_eq (b := 3) (by omega) (by omega)).mp z)) ?_
        exact b197 (nm := wv b (tk b m (j + 1))) (lg := (tk b m (j + 1)).2.2 - (tk b m (j + 1)).2.1) (fr := none) (to := none) hm hb hn (vl _ (by omega)) ⟨by omega, hkT⟩ r0 r1 r2 r3 r4 r5 h8 q1 q0
    · rw [hf] at q0
      have hF := h1.1.f (k := 2) (by decide) (by decide)
      exact ifn (nI_pos (n := i) (by omega)) (rFaults (k := 2) hg1 mt1 (t_M_wantThing_76 (rGood0 hF.n (o0 (q0 2 (j + 1) rfl _ hF)))))
  · have hF := h1.1.f (k := 1) (by decide) (by decide)
    exact t_M_wantThing_76 (rGood0 hF.n (o0 (q0 1 (j + 1) (if_neg hN) _ hF)))
