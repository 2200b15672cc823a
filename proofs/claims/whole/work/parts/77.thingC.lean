/-! ===== the class reads things: all ===== -/
def BodyF (d : Nat) (Q : Po) (r1 : Int32) (σ4 : Hp) : Prop :=
  (if r1 = 1 then (CTs d y_Sc_first [.ref 1, .int 0, .int 99999] σ4 (fun r5 σ5 => (if (oI r5) = 0 then (vb (oI r5) ∧ Q (some (.int (oI r5))) σ5) else (CTs d y_Tx_close [.ref 17] σ5 (fun _ σ6 => vb (oI r5) ∧ Q (some (.int (oI r5))) σ6)))))
  else if r1 = 2 then (CTs d y_Sc_first [.ref 1, .int 1, .int 9] σ4 (fun r7 σ7 => (if (oI r7) = 0 then ((if (0 : Int32) = 0 then (vb 0 ∧ Q (some (.int 0)) σ7) else (CTs d y_Tx_close [.ref 17] σ7 (fun _ σ8 => vb 0 ∧ Q (some (.int 0)) σ8)))) else (CTs d y_Sc_skipKey [.ref 1, .int 411] σ7 (fun r9 σ9 => (if (oI r9) = 0 then ((if (0 : Int32) = 0 then (vb 0 ∧ Q (some (.int 0)) σ9) else (CTs d y_Tx_close [.ref 17] σ9 (fun _ σ10 => vb 0 ∧ Q (some (.int 0)) σ10)))) else (CTs d y_Sc_joins [.ref 1, .int 0, .int 0] σ9 (fun r11 σ11 => (if (oI r11) = 0 then ((if (0 : Int32) = 0 then (vb 0 ∧ Q (some (.int 0)) σ11) else (CTs d y_Tx_close [.ref 17] σ11 (fun _ σ12 => vb 0 ∧ Q (some (.int 0)) σ12)))) else ((if (1 : Int32) = 0 then (vb 1 ∧ Q (some (.int 1)) σ11) else (CTs d y_Tx_close [.ref 17] σ11 (fun _ σ13 => vb 1 ∧ Q (some (.int 1)) σ13)))))))))))))
  else if r1 = 3 then (CTs d y_Sc_joins [.ref 1, .int 0, .int 0] σ4 (fun r14 σ14 => (if (oI r14) = 0 then (vb (oI r14) ∧ Q (some (.int (oI r14))) σ14) else (CTs d y_Tx_close [.ref 17] σ14 (fun _ σ15 => vb (oI r14) ∧ Q (some (.int (oI r14))) σ15)))))
  else if r1 = 4 then (CTs d y_Sc_allCorners [.ref 1] σ4 (fun r16 σ16 => (if (oI r16) = 0 then (vb (oI r16) ∧ Q (some (.int (oI r16))) σ16) else (CTs d y_Tx_close [.ref 17] σ16 (fun _ σ17 => vb (oI r16) ∧ Q (some (.int (oI r16))) σ17)))))
  else if r1 = 5 then (CTs d y_Sc_first [.ref 1, .int 0, .int 99999] σ4 (fun r18 σ18 => (if (oI r18) = 0 then (vb (oI r18) ∧ Q (some (.int (oI r18))) σ18) else (CTs d y_Tx_close [.ref 17] σ18 (fun _ σ19 => vb (oI r18) ∧ Q (some (.int (oI r18))) σ19)))))
  else (CTs d y_Sc_joins [.ref 1, .int 0, .int 0] σ4 (fun r20 σ20 => (if (oI r20) = 0 then (vb (oI r20) ∧ Q (some (.int (oI r20))) σ20) else (CTs d y_Tx_close [.ref 17] σ20 (fun _ σ21 => vb (oI r20) ∧ Q (some (.int (oI r20))) σ21))))))
theorem RN.u25 {kd nm fi c k : Nat} {fr to : Option Nat} {R : Nat → Int32} {v : Int32} (h : RN kd nm fi fr to c k R) (hv : v = 0) : RN kd nm fi fr to c k (upd R 25 v) := by
  obtain ⟨a1, a2, a3, a4, a5, a6, a7, a8⟩ := h
  refine ⟨?_, ?_, ?_, ?_, ?_, ?_, ?_, ?_⟩ <;> rw [upd_r] <;> first | rw [if_neg (by decide)]; assumption | rw [if_pos rfl]; exact hv
theorem bodyC {Q : Po} {b : Nat → Nat} {m : Nat} {σ00 : Hp} {ρ : Rho} {n c j kd nm lg : Nat} {fr to : Option Nat} {R : Nat → Int32} {σ : Hp} (hm : m ≤ 300) (hb : ∀ k, k < m → b k < 256) (hn : n < 16) (v : VL ρ n c j) (hkd : 1 ≤ kd ∧ kd ≤ 6) (hf : endV ρ n kd fr) (ht : endV ρ n kd to) (hR : RN kd nm 0 fr to c 0 R) (h : CN b m σ00 ρ n c j [] [] R σ)
    (q1 : ∀ j1 fi s cs, pBody b m ρ n kd j = .ok (j1, fi, s, cs) → ∀ τ : Hp, CBt b m σ00 (updR ρ n (kd, nm, lg, fi, fr, to, c, s, cs)) (n + 1) (c + s.length) j1 τ → Q (some (.int 1)) τ)
    (q0 : ∀ k jf, pBody b m ρ n kd j = .error (k, jf) → ∀ τ : Hp, FtC b m σ00 k jf τ → Q (some (.int 0)) τ) : BodyF 33 Q (nI kd) σ := by
  have tb := fun j => tk_TB hm hb j
  obtain ⟨v1, v2, v3, v4⟩ := v
  have hk6 : ∀ i, i < n → (ρ i).kd ≤ 6 := fun i hi => (v3 i hi).1.1.2
  have hc6 : ∀ i, i < n → (ρ i).kd = 4 → (ρ i).cs.length ≤ 6 := fun i hi h4 => ((v3 i hi).1.2.2.2.2.2.2.2.2.2.2 h4).2.1
  have hcc : ∀ i, i < n → (ρ i).c + (ρ i).s.length ≤ c := fun i hi => (v3 i hi).2.1
  have hmen : ∀ i, i < n + 1 → ∀ b, b < n → ¬ (i = n ∧ men (ρ b).s i) := fun i hi b hbn z => by
    have := (v3 b hbn).1.2.2.2.2.2.2.2.1 i (by omega) z.2
    omega
  have ne : ∀ c : Nat, c < 2 ^ 31 → kd ≠ c → ¬ nI kd = nI c := fun c hc h z => h ((nI_eq (by omega) hc).mp z)
  have fin : ∀ (j1 fi : Nat) (s : List Nat) (cs : List (Nat × Nat)) (R' : Nat → Int32) (τ : Hp), pBody b m ρ n kd j = .ok (j1, fi, s, cs) → RN kd nm fi fr to c cs.length R' → CN b m σ00 ρ n c j1 s cs R' τ → CTs 33 y_Tx_close [.ref 17] τ (fun _ σ6 => vb 1 ∧ Q (some (.int 1)) σ6) := fun j1 fi s cs R' τ hp hR' hc => by
    obtain ⟨-, -, -, -, -, w3, -⟩ := pBody_ok hm hb (by omega) hp
    exact p_closeC (lg := lg) hn hf ht hmen (fun z => by have := w3 n hn z; omega) hR' hc (fun τ2 h2 => ⟨vb1, q1 j1 fi s cs hp τ2 h2⟩)
  have numC : ∀ (K : Po), (kd = 1 ∨ kd = 5) → (∀ r τ, (r = some (.int 1) ∧ CTs 33 y_Tx_close [.ref 17] τ (fun _ σ6 => vb 1 ∧ Q (some (.int 1)) σ6)) ∨ (r = some (.int 0) ∧ Q (some (.int 0)) τ) → K r τ) → CTs 33 y_Sc_first [.ref 1, .int 0, .int 99999] σ K := fun K hk hK => by
    have hp : pBody b m ρ n kd j = (if isNu b (tk b m j) 0 99999 then .ok (j + 1, dv b (tk b m j), [], []) else .error (1, j)) := if_pos hk
    refine p_firstC (lo := 0) (hi := 99999) (tb j) hn (by decide) (by decide) h (fun hN τ h1 => hK _ _ (Or.inl ⟨rfl, ?_⟩)) (fun hN τ f => hK _ _ (Or.inr ⟨rfl, q0 1 j (hp.trans (if_neg hN)) τ f⟩))
    exact fin (j + 1) (dv b (tk b m j)) [] [] _ τ (hp.trans (if_pos hN)) hR.u20 h1
  have eC : ∀ (j0 fi : Nat) (R0 : Nat → Int32) (σ0 : Hp) (K : Po), c ≤ j0 → RN kd nm fi fr to c 0 R0 → CN b m σ00 ρ n c j0 [] [] R0 σ0 → (∀ j' s, pExp b m (pOne b m (fdR ρ n) (tbR ρ) 4) j0 = .ok (j', s) → pBody b m ρ n kd j = .ok (j', fi, s, [])) → (∀ k jf, pExp b m (pOne b m (fdR ρ n) (tbR ρ) 4) j0 = .error (k, jf) → pBody b m ρ n kd j = .error (k, jf)) → (∀ r τ, (r = some (.int 1) ∧ CTs 33 y_Tx_close [.ref 17] τ (fun _ σ6 => vb 1 ∧ Q (some (.int 1)) σ6)) ∨ (r = some (.int 0) ∧ Q (some (.int 0)) τ) → K r τ) → CTs 33 y_Sc_joins [.ref 1, .int 0, .int 0] σ0 K := fun j0 fi R0 σ0 K hc0 hR0 h0 p1 p0 hK => by
    refine p_EC hn hc0 hk6 hcc h0 trivial (fun j' s hs τ h1 hmn => hK _ _ (Or.inl ⟨rfl, ?_⟩)) (fun k jf hs τ f => hK _ _ (Or.inr ⟨rfl, q0 k jf (p0 k jf hs) τ f⟩))
    obtain ⟨-, -, -, -, -, w6⟩ := pE_ok hm hb (by omega) hs
    exact fin j' fi s [] _ τ (p1 j' s hs) (hR0.u25 ((hmn (fun z => by have := w6 n hn z; omega)).trans hR0.2.2.2.2.2.2.1)) h1
  unfold BodyF
  by_cases k1 : kd = 1
  · refine ifp (by rw [k1]; rfl) (numC _ (Or.inl k1) (fun r τ z => ?_))
    rcases z with ⟨z1, z2⟩ | ⟨z1, z2⟩
    · subst z1; exact o1 z2
    · subst z1; exact o0 ⟨vb0, z2⟩
  refine ifn (ne 1 (by decide) k1) ?_
  by_cases k2 : kd = 2
  · refine ifp (by rw [k2]; rfl) ?_
    have hp : pBody b m ρ n kd j = (if isNu b (tk b m j) 1 9 then (if isK b (tk b m (j + 1)) 411 then (match pExp b m (pOne b m (fdR ρ n) (tbR ρ) 4) (j + 2) with
      | .error e => .error e
      | .ok (j', s) => .ok (j', dv b (tk b m j), s, [])) else .error (1, j + 1)) else .error (1, j)) := by
      unfold pBody
      rw [if_neg (by omega), if_pos k2]
      rfl
    refine p_firstC (lo := 1) (hi := 9) (tb j) hn (by decide) (by decide) h (fun hN τ h1 => o1 ?_) (fun hN τ f => o0 (ifp rfl ⟨vb0, q0 1 j (hp.trans (if_neg hN)) τ f⟩))
    refine p_skCN (ch := 411) (tb _) (by decide) h1 (fun hK τ2 h2 => o1 ?_) (fun hK τ2 f => o0 (ifp rfl ⟨vb0, q0 1 (j + 1) (hp.trans ((if_pos hN).trans (if_neg hK))) τ2 f⟩))
    refine eC (j + 2) (dv b (tk b m j)) _ τ2 _ (by omega) hR.u20 h2 (fun j' s hs => ?_) (fun k jf hs => ?_) (fun r τ3 z => ?_)
    · rw [hp, if_pos hN, if_pos hK, hs]
    · rw [hp, if_pos hN, if_pos hK, hs]
    · rcases z with ⟨z1, z2⟩ | ⟨z1, z2⟩
      · subst z1; exact o1 (ifn (by decide) z2)
      · subst z1; exact o0 (ifp rfl ⟨vb0, z2⟩)
  refine ifn (ne 2 (by decide) k2) ?_
  have eAll : kd ≠ 4 → kd ≠ 5 → CTs 33 y_Sc_joins [.ref 1, .int 0, .int 0] σ (fun r14 σ14 => (if (oI r14) = 0 then (vb (oI r14) ∧ Q (some (.int (oI r14))) σ14) else (CTs 33 y_Tx_close [.ref 17] σ14 (fun _ σ15 => vb (oI r14) ∧ Q (some (.int (oI r14))) σ15)))) := fun k4 k5 => by
    have hp : pBody b m ρ n kd j = (match pExp b m (pOne b m (fdR ρ n) (tbR ρ) 4) j with
      | .error e => .error e
      | .ok (j', s) => .ok (j', 0, s, [])) := by
      unfold pBody
      rw [if_neg (by omega), if_neg k2, if_neg k4]
      rfl
    refine eC j 0 R σ _ v2 hR h (fun j' s hs => ?_) (fun k jf hs => ?_) (fun r τ3 z => ?_)
    · rw [hp, hs]
    · rw [hp, hs]
    · rcases z with ⟨z1, z2⟩ | ⟨z1, z2⟩
      · subst z1; exact o1 z2
      · subst z1; exact o0 ⟨vb0, z2⟩
  by_cases k3 : kd = 3
  · exact ifp (by rw [k3]; rfl) (eAll (by omega) (by omega))
  refine ifn (ne 3 (by decide) k3) ?_
  by_cases k4 : kd = 4
  · refine ifp (by rw [k4]; rfl) (e_Sc_allCorners (t_Sc_allCorners_0 ?_))
    have hp : pBody b m ρ n kd j = (match pCors b m 6 [] j with
      | .error e => .error e
      | .ok (j', cs) => .ok (j', 0, [], cs)) := by
      unfold pBody
      rw [if_neg (by omega), if_neg k2, if_pos k4]
      rfl
    refine p_corsC (d := 28) (kd := kd) (nm := nm) (fi := 0) (fr := fr) (to := to) tb hn hc6 6 j [] R 0 σ rfl ⟨fun k hk => absurd hk (Nat.not_lt_zero _), fun k hk => absurd hk (Nat.not_lt_zero _)⟩ hR (by decide) h (fun j' cs hs R' τ hR' h1 => o1 ?_) (fun k jf hs τ f => o0 ⟨vb0, q0 k jf (by rw [hp, hs]) τ f⟩)
    exact fin j' 0 [] cs R' τ (by rw [hp, hs]) hR' h1
  refine ifn (ne 4 (by decide) k4) ?_
  by_cases k5 : kd = 5
  · refine ifp (by rw [k5]; rfl) (numC _ (Or.inr k5) (fun r τ z => ?_))
    rcases z with ⟨z1, z2⟩ | ⟨z1, z2⟩
    · subst z1; exact o1 z2
    · subst z1; exact o0 ⟨vb0, z2⟩
  exact ifn (ne 5 (by decide) k5) (eAll k4 k5)
theorem pEnds_ok {b : Nat → Nat} {m : Nat} {ρ : Rho} {n j : Nat} {fr to : Option Nat} (hE : pEnds b m ρ n j = .ok (fr, to)) : endV ρ n 3 fr ∧ endV ρ n 3 to := by
  unfold pEnds at hE
  split at hE
  · cases h1 : pEnd b m ρ n (j + 1) with
    | error x => rw [h1] at hE; cases hE
    | ok fr1 =>
      rw [h1] at hE
      replace hE : (if isK b (tk b m (j + 2)) 555 then (match pEnd b m ρ n (j + 3) with
        | .error e => (.error e : Except (Nat × Nat) (Option Nat × Option Nat))
        | .ok to => .ok (fr1, to)) else .error (1, j + 2)) = .ok (fr, to) := hE
      split at hE
      · cases h2 : pEnd b m ρ n (j + 3) with
        | error x => rw [h2] at hE; cases hE
        | ok to1 =>
          rw [h2] at hE
          injection hE with hE
          injection hE with e1 e2
          rw [← e1, ← e2]
          exact ⟨(pEnd_ok h1).2, (pEnd_ok h2).2⟩
      · cases hE
  · cases hE
theorem p_thingC {Q : Po} {b : Nat → Nat} {m : Nat} {σ00 : Hp} {ρ : Rho} {n c j : Nat} {σ : Hp} (hm : m ≤ 300) (hb : ∀ k, k < m → b k < 256) (hn : n < 16) (v : VL ρ n c j) (h : CBt b m σ00 ρ n c j σ)
    (q1 : ∀ j1 r, pThing b m ρ n c j = (if isS b (tk b m j1) 59 then .ok (j1 + 1, r) else .error (1, j1)) → ∀ τ : Hp, CBt b m σ00 (updR ρ n r) (n + 1) (c + r.s.length) j1 τ → Q (some (.int 1)) τ)
    (q0 : ∀ k jf, pThing b m ρ n c j = .error (k, jf) → ∀ τ : Hp, FtC b m σ00 k jf τ → Q (some (.int 0)) τ) : CTs 34 y_Sc_oneThing [.ref 1] σ Q := by
  have tb := fun j => tk_TB hm hb j
  have hkT := kdT_le (b := b) (t := tk b m j)
  have hk6 : ∀ i, i < n → (ρ i).kd ≤ 6 := fun i hi => (v.2.2.1 i hi).1.1.2
  have vl : ∀ j', j ≤ j' → VL ρ n c j' := fun j' hj => ⟨v.1, by have := v.2.1; omega, v.2.2.1, v.2.2.2⟩
  refine e_Sc_oneThing (t_Sc_oneThing_0 (p_kindKey (tb j) h.1.2.2.2.2 ?_))
  by_cases h0 : kdT b (tk b m j) = 0
  · exact ifp (by rw [h0]; rfl) (p_wrong (k := 1) h.1.2.2.2.2 ⟨vb0, q0 1 j (if_pos h0) _ (h.1.f 1)⟩)
  · refine ifn (fun z => h0 ((nI_eq (b := 0) (by omega) (by omega)).mp z)) (p_nx h.1.2.1 h.1.2.2.2.2 (fun τ f k => ?_))
    have h1 : CBt b m σ00 ρ n c (j + 1) τ := ⟨h.1.S f k, h.2.S f.a⟩
    unfold pThing at q1 q0
    rw [if_neg h0] at q1 q0
    refine p_newN (kd := kdT b (tk b m j)) (tb _) hn h1 (fun hN hf R τ2 hR h2 => o1 ?_) (fun hN τ2 f2 => o0 ⟨vb0, q0 1 (j + 1) (if_neg hN) τ2 f2⟩) (fun i hN hf τ2 f2 => o0 ⟨vb0, q0 2 (j + 1) (by rw [if_pos hN, hf]) τ2 f2⟩)
    rw [if_pos hN, hf] at q1 q0
    replace q1 : ∀ j1 r, (if kdT b (tk b m j) = 3 then (match pEnds b m ρ n (j + 2) with
          | .error e => (.error e : Except (Nat × Nat) (Nat × RcT))
          | .ok (fr, to) => pTail b m ρ n c 3 (wv b (tk b m (j + 1))) ((tk b m (j + 1)).2.2 - (tk b m (j + 1)).2.1) fr to (j + 6))
          else pTail b m ρ n c (kdT b (tk b m j)) (wv b (tk b m (j + 1))) ((tk b m (j + 1)).2.2 - (tk b m (j + 1)).2.1) none none (j + 2)) = (if isS b (tk b m j1) 59 then .ok (j1 + 1, r) else .error (1, j1)) → ∀ τ : Hp, CBt b m σ00 (updR ρ n r) (n + 1) (c + r.s.length) j1 τ → Q (some (.int 1)) τ := q1
    replace q0 : ∀ k jf, (if kdT b (tk b m j) = 3 then (match pEnds b m ρ n (j + 2) with
          | .error e => (.error e : Except (Nat × Nat) (Nat × RcT))
          | .ok (fr, to) => pTail b m ρ n c 3 (wv b (tk b m (j + 1))) ((tk b m (j + 1)).2.2 - (tk b m (j + 1)).2.1) fr to (j + 6))
          else pTail b m ρ n c (kdT b (tk b m j)) (wv b (tk b m (j + 1))) ((tk b m (j + 1)).2.2 - (tk b m (j + 1)).2.1) none none (j + 2)) = .error (k, jf) → ∀ τ : Hp, FtC b m σ00 k jf τ → Q (some (.int 0)) τ := q0
    by_cases h3 : kdT b (tk b m j) = 3
    · rw [if_pos h3] at q1 q0
      refine ifp (by rw [h3]; rfl) (p_endsC tb hn hk6 h2 (fun fr to he τ3 h4 => o1 ?_) (fun k jf he τ3 f3 => o0 ⟨vb0, q0 k jf ?_ τ3 f3⟩))
      · replace he : pEnds b m ρ n (j + 2) = .ok (fr, to) := he
        rw [he] at q1 q0
        replace q1 : ∀ j1 r, pTail b m ρ n c 3 (wv b (tk b m (j + 1))) ((tk b m (j + 1)).2.2 - (tk b m (j + 1)).2.1) fr to (j + 6) = (if isS b (tk b m j1) 59 then .ok (j1 + 1, r) else .error (1, j1)) → ∀ τ : Hp, CBt b m σ00 (updR ρ n r) (n + 1) (c + r.s.length) j1 τ → Q (some (.int 1)) τ := q1
        replace q0 : ∀ k jf, pTail b m ρ n c 3 (wv b (tk b m (j + 1))) ((tk b m (j + 1)).2.2 - (tk b m (j + 1)).2.1) fr to (j + 6) = .error (k, jf) → ∀ τ : Hp, FtC b m σ00 k jf τ → Q (some (.int 0)) τ := q0
        have hEs := pEnds_ok he
        refine p_skSN (ch := 61) (tb _) (by decide) h4 (fun h61 τ4 h5 => o1 ?_) (fun h61 τ4 f4 => o0 ⟨vb0, q0 1 (j + 6) (if_neg h61) τ4 f4⟩)
        rw [h3] at hR ⊢
        refine bodyC (lg := (tk b m (j + 1)).2.2 - (tk b m (j + 1)).2.1) hm hb hn (vl _ (by omega)) (by decide) hEs.1 hEs.2 hR.u2 h5 (fun j1 fi s cs hp τ5 h6 => q1 j1 (3, wv b (tk b m (j + 1)), (tk b m (j + 1)).2.2 - (tk b m (j + 1)).2.1, fi, fr, to, c, s, cs) ?_ τ5 h6) (fun k jf hp τ5 f5 => q0 k jf ?_ τ5 f5)
        · replace hp : pBody b m ρ n 3 (j + 6 + 1) = .ok (j1, fi, s, cs) := hp
          unfold pTail
          rw [if_pos h61, hp]
        · replace hp : pBody b m ρ n 3 (j + 6 + 1) = .error (k, jf) := hp
          unfold pTail
          rw [if_pos h61, hp]
      · replace he : pEnds b m ρ n (j + 2) = .error (k, jf) := he
        rw [he]
    · rw [if_neg h3] at q1 q0
      refine ifn (fun z => h3 ((nI_eq (b := 3) (by omega) (by omega)).mp z)) ?_
      refine p_skSN (ch := 61) (tb _) (by decide) h2 (fun h61 τ4 h5 => o1 ?_) (fun h61 τ4 f4 => o0 ⟨vb0, q0 1 (j + 2) (if_neg h61) τ4 f4⟩)
      refine bodyC (lg := (tk b m (j + 1)).2.2 - (tk b m (j + 1)).2.1) hm hb hn (vl _ (by omega)) ⟨by omega, hkT⟩ (Or.inl rfl) (Or.inl rfl) hR h5 (fun j1 fi s cs hp τ5 h6 => q1 j1 (kdT b (tk b m j), wv b (tk b m (j + 1)), (tk b m (j + 1)).2.2 - (tk b m (j + 1)).2.1, fi, none, none, c, s, cs) ?_ τ5 h6) (fun k jf hp τ5 f5 => q0 k jf ?_ τ5 f5)
      · replace hp : pBody b m ρ n (kdT b (tk b m j)) (j + 2 + 1) = .ok (j1, fi, s, cs) := hp
        unfold pTail
        rw [if_pos h61, hp]
      · replace hp : pBody b m ρ n (kdT b (tk b m j)) (j + 2 + 1) = .error (k, jf) := hp
        unfold pTail
        rw [if_pos h61, hp]
