/-! ===== the class reads things: ends, first, corners, E ===== -/
theorem p_endC {d : Nat} {K : Po} {b : Nat → Nat} {m : Nat} {σ00 : Hp} {ρ : Rho} {n c j q : Nat} {s : List Nat} {cs : List (Nat × Nat)} {R : Nat → Int32} {σ : Hp} (hq : q = 21 ∨ q = 22) (tbj : TB b (tk b m j)) (hn : n < 16) (hk6 : ∀ i, i < n → (ρ i).kd ≤ 6) (h : CN b m σ00 ρ n c j s cs R σ)
    (q1 : ∀ e, pEnd b m ρ n j = .ok e → ∀ τ : Hp, CN b m σ00 ρ n c (j + 1) s cs (upd R q (eI e)) τ → K (some (.int 1)) τ)
    (q0 : ∀ k jf, pEnd b m ρ n j = .error (k, jf) → ∀ τ : Hp, FtC b m σ00 k jf τ → K (some (.int 0)) τ) : CTs (d + 3) y_Sc_end [.ref 1, .ref q] σ K := by
  have ct := h.1.2.2.2.2
  have l1 := h.2.1.1
  have hv : vp_in (nI n) 16 := vp_in_nI hn (by omega)
  refine e_Sc_end hq (t_Sc_end_0 hq (q_isK (c := 11522) tbj ct (by decide) (fun hK => o1 ?_) (fun hK => o0 ?_)))
  · rw [l1, nI_clamp (n := n) (by omega)]
    have h2 := h.w (q := q) (v := -9) (by omega) (by omega)
    exact ⟨hv, p_nx h2.1.2.1 h2.1.2.2.2.2 (fun τ f k => ⟨vb1, q1 none (if_pos hK) τ (h2.S f k)⟩)⟩
  · refine q_isNm tbj ct (fun hN => o1 ?_) (fun hN => o0 (p_wrong (k := 1) ct ⟨vb0, q0 1 j ((if_neg hK).trans (if_neg hN)) _ (h.1.f 1)⟩))
    rw [(ct.2.2.2.1 hN.1).2]
    have hfd : fnd (σ.1 19) (nI (wv b (tk b m j))) n 0 = fdR ρ n (wv b (tk b m j)) := fnd_cong n 0 (fun t _ ht => (h.2.1.2.2.1 t (by omega)).2.1)
    have hp : pEnd b m ρ n j = (match fdR ρ n (wv b (tk b m j)) with
      | none => .error (2, j)
      | some i => if (ρ i).kd = 1 then .ok (some i) else .error (3, j)) := (if_neg hK).trans (if_pos hN)
    refine p_find (Or.inr rfl) l1 (by omega) (fun hf => ?_) (fun i hi hf => ?_)
    · replace hf : fnd (σ.1 19) (nI (wv b (tk b m j))) n 0 = none := hf
      rw [hfd] at hf
      exact ifn (by decide) (p_wrong (k := 2) ct ⟨vb0, q0 2 j (by rw [hp, hf]) _ (h.1.f 2)⟩)
    · replace hf : fnd (σ.1 19) (nI (wv b (tk b m j))) n 0 = some i := hf
      rw [hfd] at hf
      rw [hf] at hp
      have hki := hk6 i hi
      refine ifp (nI_pos' (n := i) (by omega)) ⟨vp_in_nI (by omega) (by omega), ?_⟩
      show if σ.1 18 (nI i).toNatClampNeg = 1 then _ else _
      rw [nI_clamp (n := i) (by omega), (h.2.1.2.2.1 i hi).1]
      by_cases h1 : (ρ i).kd = 1
      · refine ifp (by rw [h1]; rfl) ?_
        rw [l1, nI_clamp (n := n) (by omega)]
        have h2 := h.w (q := q) (v := nI i) (by omega) (by omega)
        exact ⟨hv, p_nx h2.1.2.1 h2.1.2.2.2.2 (fun τ f k => ⟨vb1, q1 (some i) (hp.trans (if_pos h1)) τ (h2.S f k)⟩)⟩
      · exact ifn (fun z => h1 ((nI_eq (b := 1) (by omega) (by omega)).mp z)) (p_wrong (k := 3) ct ⟨vb0, q0 3 j (hp.trans (if_neg h1)) _ (h.1.f 3)⟩)
theorem p_skCN {d : Nat} {K : Po} {b : Nat → Nat} {m : Nat} {σ00 : Hp} {ρ : Rho} {n c j ch : Nat} {s : List Nat} {cs : List (Nat × Nat)} {R : Nat → Int32} {σ : Hp} (tbj : TB b (tk b m j)) (hc : ch < 2 ^ 31) (h : CN b m σ00 ρ n c j s cs R σ) (q1 : isK b (tk b m j) ch → ∀ τ : Hp, CN b m σ00 ρ n c (j + 1) s cs R τ → K (some (.int 1)) τ) (q0 : ¬ isK b (tk b m j) ch → ∀ τ : Hp, FtC b m σ00 1 j τ → K (some (.int 0)) τ) : CTs (d + 3) y_Sc_skipKey [.ref 1, .int (nI ch)] σ K := p_skipKey tbj h.1.2.1 h.1.2.2.2.2 hc (fun z τ f k => q1 z τ (h.S f k)) (fun z => q0 z _ (h.1.f 1))
theorem p_skSN {d : Nat} {K : Po} {b : Nat → Nat} {m : Nat} {σ00 : Hp} {ρ : Rho} {n c j ch : Nat} {s : List Nat} {cs : List (Nat × Nat)} {R : Nat → Int32} {σ : Hp} (tbj : TB b (tk b m j)) (hc : ch < 2 ^ 31) (h : CN b m σ00 ρ n c j s cs R σ) (q1 : isS b (tk b m j) ch → ∀ τ : Hp, CN b m σ00 ρ n c (j + 1) s cs R τ → K (some (.int 1)) τ) (q0 : ¬ isS b (tk b m j) ch → ∀ τ : Hp, FtC b m σ00 1 j τ → K (some (.int 0)) τ) : CTs (d + 3) y_Sc_skipSign [.ref 1, .int (nI ch)] σ K := p_skipSign tbj h.1.2.1 h.1.2.2.2.2 hc (fun z τ f k => q1 z τ (h.S f k)) (fun z => q0 z _ (h.1.f 1))
theorem p_endsC {d : Nat} {K : Po} {b : Nat → Nat} {m : Nat} {σ00 : Hp} {ρ : Rho} {n c j : Nat} {s : List Nat} {cs : List (Nat × Nat)} {R : Nat → Int32} {σ : Hp} (tb : ∀ j, TB b (tk b m j)) (hn : n < 16) (hk6 : ∀ i, i < n → (ρ i).kd ≤ 6) (h : CN b m σ00 ρ n c j s cs R σ)
    (q1 : ∀ fr to, pEnds b m ρ n j = .ok (fr, to) → ∀ τ : Hp, CN b m σ00 ρ n c (j + 4) s cs (upd (upd R 21 (eI fr)) 22 (eI to)) τ → K (some (.int 1)) τ)
    (q0 : ∀ k jf, pEnds b m ρ n j = .error (k, jf) → ∀ τ : Hp, FtC b m σ00 k jf τ → K (some (.int 0)) τ) : CTs (d + 4) y_Sc_ends [.ref 1] σ K := by
  refine e_Sc_ends (t_Sc_ends_0 (p_skCN (ch := 131638) (tb j) (by decide) h (fun hK τ h1 => o1 ?_) (fun hK τ f => o0 ⟨vb0, q0 1 j (if_neg hK) τ f⟩)))
  unfold pEnds at q1 q0
  rw [if_pos hK] at q1 q0
  refine p_endC (Or.inl rfl) (tb _) hn hk6 h1 (fun fr hfr τ2 h2 => o1 ?_) (fun k jf hfr τ2 f => o0 ⟨vb0, q0 k jf (by rw [hfr]) τ2 f⟩)
  rw [hfr] at q1 q0
  replace q1 : ∀ fr' to, (if isK b (tk b m (j + 2)) 555 then (match pEnd b m ρ n (j + 3) with
      | .error e => (.error e : Except (Nat × Nat) (Option Nat × Option Nat))
      | .ok to => .ok (fr, to)) else .error (1, j + 2)) = .ok (fr', to) → ∀ τ : Hp, CN b m σ00 ρ n c (j + 4) s cs (upd (upd R 21 (eI fr')) 22 (eI to)) τ → K (some (.int 1)) τ := q1
  replace q0 : ∀ k jf, (if isK b (tk b m (j + 2)) 555 then (match pEnd b m ρ n (j + 3) with
      | .error e => (.error e : Except (Nat × Nat) (Option Nat × Option Nat))
      | .ok to => .ok (fr, to)) else .error (1, j + 2)) = .error (k, jf) → ∀ τ : Hp, FtC b m σ00 k jf τ → K (some (.int 0)) τ := q0
  refine p_skCN (ch := 555) (tb _) (by decide) h2 (fun hK2 τ3 h3 => o1 ?_) (fun hK2 τ3 f => o0 ⟨vb0, q0 1 (j + 2) (if_neg hK2) τ3 f⟩)
  rw [if_pos hK2] at q1 q0
  refine p_endC (Or.inr rfl) (tb _) hn hk6 h3 (fun to hto τ4 h4 => o1 ⟨vb1, q1 fr to ?_ τ4 h4⟩) (fun k jf hto τ4 f => o0 ⟨vb0, q0 k jf ?_ τ4 f⟩)
  · replace hto : pEnd b m ρ n (j + 3) = .ok to := hto
    rw [hto]
  · replace hto : pEnd b m ρ n (j + 3) = .error (k, jf) := hto
    rw [hto]
theorem p_firstC {d : Nat} {K : Po} {b : Nat → Nat} {m : Nat} {σ00 : Hp} {ρ : Rho} {n c j lo hi : Nat} {s : List Nat} {cs : List (Nat × Nat)} {R : Nat → Int32} {σ : Hp} (tbj : TB b (tk b m j)) (hn : n < 16) (hlo : lo < 2 ^ 31) (hhi : hi < 2 ^ 31) (h : CN b m σ00 ρ n c j s cs R σ) (q1 : isNu b (tk b m j) lo hi → ∀ τ : Hp, CN b m σ00 ρ n c (j + 1) s cs (upd R 20 (nI (dv b (tk b m j)))) τ → K (some (.int 1)) τ) (q0 : ¬ isNu b (tk b m j) lo hi → ∀ τ : Hp, FtC b m σ00 1 j τ → K (some (.int 0)) τ) : CTs (d + 3) y_Sc_first [.ref 1, .int (nI lo), .int (nI hi)] σ K := by
  have ct := h.1.2.2.2.2
  refine e_Sc_first (t_Sc_first_0 (q_isN tbj ct hlo hhi (fun hN => o1 ?_) (fun hN => o0 (p_wrong (k := 1) ct ⟨vb0, q0 hN _ (h.1.f 1)⟩))))
  rw [h.2.1.1, nI_clamp (n := n) (by omega), (ct.2.2.2.2.1 hN.1).2]
  have h2 := h.w (q := 20) (v := nI (dv b (tk b m j))) (by omega) (by omega)
  exact ⟨vp_in_nI hn (by omega), p_nx h2.1.2.1 h2.1.2.2.2.2 (fun τ f k => ⟨vb1, q1 hN τ (h2.S f k)⟩)⟩
theorem CN.w2 {b : Nat → Nat} {m : Nat} {σ00 : Hp} {ρ : Rho} {n c j : Nat} {s : List Nat} {cs : List (Nat × Nat)} {R : Nat → Int32} {σ : Hp} (h : CN b m σ00 ρ n c j s cs R σ) (hc6 : ∀ i, i < n → (ρ i).kd = 4 → (ρ i).cs.length ≤ 6) {q x : Nat} {v : Int32} (hq : q = 27 ∨ q = 28) (hx : 6 * n + cs.length ≤ x) : CN b m σ00 ρ n c j s cs R (sI σ q x v) := by
  obtain ⟨g, ⟨l1, l2, l3, l4⟩, r, k⟩ := h
  have off : ∀ a, a ≠ q → (sI σ q x v).1 a = σ.1 a := fun a ha => by rw [sI_r, if_neg ha]
  have at' : ∀ a y, y < x → (sI σ q x v).1 a y = σ.1 a y := fun a y hy => by
    rw [sI_r]
    split
    · rename_i e; rw [upd_r, if_neg (by omega), e]
    · rfl
  refine ⟨g.w (by omega) (by omega), ⟨by rw [off 17 (by omega)]; exact l1, by rw [off 17 (by omega)]; exact l2, fun i hi => (l3 i hi).cong (fun a _ _ => by rw [off a (by omega)]) (by rw [off 25 (by omega)]; exact (l3 i hi).2.2.2.2.2.2.2.1) (by rw [off 26 (by omega)]) (fun z k hk => ?_) (fun q _ => by rw [off 29 (by omega)]), fun q hq => by rw [off 29 (by omega)]; exact l4 q hq⟩, fun a a1 a2 => by rw [off a (by omega)]; exact r a a1 a2, fun y hy => ?_⟩
  · have := hc6 i hi z
    exact ⟨at' 27 _ (by omega), at' 28 _ (by omega)⟩
  · rw [at' 27 _ (by omega), at' 28 _ (by omega)]
    exact k y hy
theorem CN.add {b : Nat → Nat} {m : Nat} {σ00 : Hp} {ρ : Rho} {n c j : Nat} {s : List Nat} {cs : List (Nat × Nat)} {R : Nat → Int32} {σ : Hp} (h : CN b m σ00 ρ n c j s cs R σ) {x : Nat × Nat} (h1 : σ.1 27 (6 * n + cs.length) = nI x.1) (h2 : σ.1 28 (6 * n + cs.length) = nI x.2) : CN b m σ00 ρ n c j s (cs ++ [x]) R σ := by
  refine ⟨h.1, h.2.1, h.2.2.1, fun k hk => ?_⟩
  rw [List.length_append] at hk
  replace hk : k < cs.length + 1 := hk
  rw [getD_appP hk]
  split
  · rename_i e; rw [e]; exact ⟨h1, h2⟩
  · exact h.2.2.2 k (by omega)
theorem p_cornerC {d : Nat} {K : Po} {b : Nat → Nat} {m : Nat} {σ00 : Hp} {ρ : Rho} {n c j : Nat} {s : List Nat} {cs : List (Nat × Nat)} {R : Nat → Int32} {σ : Hp} (tb : ∀ j, TB b (tk b m j)) (hn : n < 16) (hc6 : ∀ i, i < n → (ρ i).kd = 4 → (ρ i).cs.length ≤ 6) (hcs : cs.length < 6) (hla : laC cs < 2 ^ 31) (h : CN b m σ00 ρ n c j s cs R σ)
    (q1 : ∀ x, pCor b m cs.length (laC cs) j = .ok x → ∀ τ : Hp, CN b m σ00 ρ n c (j + 3) s (cs ++ [x]) R τ → K (some (.int 1)) τ)
    (q0 : ∀ k jf, pCor b m cs.length (laC cs) j = .error (k, jf) → ∀ τ : Hp, FtC b m σ00 k jf τ → K (some (.int 0)) τ) : CTs (d + 4) y_Sc_corner [.ref 1, .int (nI cs.length)] σ K := by
  have ct := h.1.2.2.2.2
  unfold pCor at q1 q0
  refine e_Sc_corner (t_Sc_corner_0 (q_isN (lo := 0) (hi := 99999) (tb j) ct (by decide) (by decide) (fun hN => o1 ?_) (fun hN => o0 (p_wrong (k := 1) ct ⟨vb0, q0 1 j (if_neg hN) _ (h.1.f 1)⟩))))
  rw [if_pos hN] at q1 q0
  have hd : dv b (tk b m j) ≤ 99999 := hN.2.2.2
  have eslot : nI n * 6 + nI cs.length = nI (6 * n + cs.length) := by
    rw [show (6 : Int32) = nI 6 from rfl, pk_mul, nI_add, Nat.mul_comm n 6]
  rw [h.2.1.1, eslot, nI_clamp (n := 6 * n + cs.length) (by omega), (ct.2.2.2.2.1 hN.1).2]
  have hv : vp_in (nI (6 * n + cs.length)) 96 := vp_in_nI (by omega) (by omega)
  have h1 := h.w2 hc6 (q := 27) (x := 6 * n + cs.length) (v := nI (dv b (tk b m j))) (Or.inl rfl) (Nat.le_refl _)
  have rest : ¬ (0 < cs.length ∧ dv b (tk b m j) ≤ laC cs) → CTs (d + 3) y_Sc_next [.ref 1] (sI σ 27 (6 * n + cs.length) (nI (dv b (tk b m j)))) (fun r2 σ2 => CTs (d + 3) y_Sc_skipSign [.ref 1, .int 58] σ2 (fun r3 σ3 => (if (oI r3) = 0 then (vb 0 ∧ K (some (.int 0)) σ3) else (CTs (d + 3) y_Sc_isN [.ref 1, .int 0, .int 99999] σ3 (fun r4 σ4 => (if (oI r4) = 0 then (CTs (d + 3) y_Sc_wrong [.ref 1, .int 1] σ4 (fun r6 σ6 => vb (oI r6) ∧ K (some (.int (oI r6))) σ6)) else (vp_in (nI (6 * n + cs.length)) 96 ∧ (CTs (d + 3) y_Sc_next [.ref 1] (sI σ4 28 (6 * n + cs.length) (σ4.1 1 9)) (fun r5 σ5 => vb (oI r5) ∧ K (some (.int (oI r5))) σ5))))))))) := fun hno => by
    rw [if_neg hno] at q1 q0
    refine p_nx h1.1.2.1 h1.1.2.2.2.2 (fun τ f k => ?_)
    have h2 := h1.S f k
    have a2 : τ.1 27 (6 * n + cs.length) = nI (dv b (tk b m j)) := by rw [f.2.1 27 (by decide), sI_r, if_pos rfl, upd_r, if_pos rfl]
    refine p_skipSign (c := 58) (tb _) h2.1.2.1 h2.1.2.2.2.2 (by decide) (fun h58 τ2 f2 k2 => o1 ?_) (fun h58 => o0 ⟨vb0, q0 1 (j + 1) (if_neg h58) _ (h2.1.f 1)⟩)
    rw [if_pos h58] at q1 q0
    have h3 := h2.S f2 k2
    have a3 : τ2.1 27 (6 * n + cs.length) = nI (dv b (tk b m j)) := by rw [f2.2.1 27 (by decide)]; exact a2
    refine q_isN (lo := 0) (hi := 99999) (tb _) h3.1.2.2.2.2 (by decide) (by decide) (fun hN2 => o1 ?_) (fun hN2 => o0 (p_wrong (k := 1) h3.1.2.2.2.2 ⟨vb0, q0 1 (j + 2) (if_neg hN2) _ (h3.1.f 1)⟩))
    rw [(h3.1.2.2.2.2.2.2.2.2.1 hN2.1).2]
    have h4 := h3.w2 hc6 (q := 28) (x := 6 * n + cs.length) (v := nI (dv b (tk b m (j + 1 + 1)))) (Or.inr rfl) (Nat.le_refl _)
    have h5 := h4.add (x := (dv b (tk b m j), dv b (tk b m (j + 2)))) (by rw [sI_r, if_neg (by decide)]; exact a3) (by rw [sI_r, if_pos rfl, upd_r, if_pos rfl])
    exact ⟨hv, p_nx h5.1.2.1 h5.1.2.2.2.2 (fun τ3 f3 k3 => ⟨vb1, q1 _ (if_pos hN2) τ3 (h5.S f3 k3)⟩)⟩
  by_cases h0 : cs.length = 0
  · exact ifp (by rw [h0]; decide) ⟨hv, rest (fun z => by omega)⟩
  · refine ifn (nI_nle (n := cs.length) (by omega) (by omega)) ?_
    have e1 : nI (6 * n + cs.length) - 1 = nI (6 * n + (cs.length - 1)) := by
      have := nI_pred (6 * n + (cs.length - 1))
      rw [show 6 * n + (cs.length - 1) + 1 = 6 * n + cs.length by omega] at this
      exact this
    rw [e1, nI_clamp (n := 6 * n + (cs.length - 1)) (by omega), (h.2.2.2 (cs.length - 1) (by omega)).1]
    refine ⟨vp_in_nI (by omega) (by omega), ?_⟩
    by_cases hl : laC cs < dv b (tk b m j)
    · exact ifp (nI_lt hl (by omega)) ⟨hv, rest (fun z => by omega)⟩
    · exact ifn (nI_nlt (a := laC cs) (b := dv b (tk b m j)) (by omega) hla) (p_wrong (k := 3) ct ⟨vb0, q0 3 j (if_pos ⟨by omega, by omega⟩) _ (h.1.f 3)⟩)
