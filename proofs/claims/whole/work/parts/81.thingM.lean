/-! ===== the reference reads things: a thing ===== -/
def MBt (b : Nat → Nat) (m : Nat) (σ00 : Hp) (ρ : Rho) (n c j : Nat) (σ : Hp) : Prop := MG b m σ00 j σ ∧ MLs ρ n c [] σ
def RMs (kd nm lg c : Nat) (fr to : Option Nat) (R : Nat → Int32) : Prop := R 0 = nI kd ∧ R 1 = nI nm ∧ R 2 = nI lg ∧ R 4 = eI fr ∧ R 5 = eI to ∧ R 6 = nI c
theorem closeM {Q : Po} {b : Nat → Nat} {m : Nat} {σ00 : Hp} {ρ : Rho} {n c j kd nm lg fi : Nat} {fr to : Option Nat} {s : List Nat} {cs : List (Nat × Nat)} {R : Nat → Int32} {σ : Hp} {v : Int32} (tbj : TB b (tk b m j)) (hn : n < 16) (hc6 : ∀ i, i < n → (ρ i).kd = 4 → (ρ i).cs.length ≤ 6) (hc6' : kd = 4 → cs.length ≤ 6) (hv : v = nI (c + s.length)) (hR : RMs kd nm lg c fr to R) (h3 : kd ≠ 4 → R 3 = nI fi) (h4 : kd = 4 → R 3 = nI cs.length ∧ CR cs R) (h : MN b m σ00 ρ n c j s R σ)
    (q1 : isS b (tk b m j) 59 → ∀ τ : Hp, MBt b m σ00 (updR ρ n (kd, nm, lg, fi, fr, to, c, s, cs)) (n + 1) (c + s.length) (j + 1) τ → Q none τ)
    (q0 : ¬ isS b (tk b m j) 59 → ∀ τ : Hp, MFt σ00 1 (tk b m j).2.1 τ → Q none τ) : vp_in (nI (20 * n) + 7) 320 ∧ CTs 10 y_M_wantMark [.ref 98, .int 59] (sI σ 102 (nI (20 * n) + 7).toNatClampNeg v) (fun _ σ3 => Q none (sI σ3 98 12 (σ3.1 98 12 + 1))) := by
  obtain ⟨v7, e7⟩ := ix20 (n := n) (w := 7) hn (by decide)
  replace e7 : (nI (20 * n) + 7).toNatClampNeg = 20 * n + 7 := e7
  refine ⟨v7, ?_⟩
  rw [e7, hv]
  have h2 := h.w hc6 (w := 7) (v := nI (c + s.length)) (by decide)
  refine rMark (c := 59) tbj h2.1.2.1 h2.1.2.2.2.2 h2.1.2.2.1 (by decide) (fun h59 τ f k => q1 h59 _ ?_) (fun h59 => q0 h59 _ ((h2.1.f (by decide) (by decide)).v (Or.inl rfl)))
  obtain ⟨⟨g1, ⟨t1, t2, t3⟩, g3, g4, g5⟩, ⟨l1, l2, l3, l4⟩, r⟩ := h2.T f k
  obtain ⟨r0, r1, r2, r4, r5, r6⟩ := hR
  have gx : ∀ x, x ≠ 12 → (sI τ 98 12 (τ.1 98 12 + 1)).1 98 x = τ.1 98 x := fun x hx => by rw [sI_r, if_pos rfl, upd_r, if_neg hx]
  have off : ∀ a, a ≠ 98 → (sI τ 98 12 (τ.1 98 12 + 1)).1 a = τ.1 a := fun a ha => by rw [sI_r, if_neg ha]
  have en : updR ρ n (kd, nm, lg, fi, fr, to, c, s, cs) n = (kd, nm, lg, fi, fr, to, c, s, cs) := if_pos rfl
  have u7 : ∀ w, w ≠ 7 → upd R 7 (nI (c + s.length)) w = R w := fun w hw => by rw [upd_r, if_neg hw]
  obtain ⟨a1, a2, a3, a4, a5, a6⟩ := g5
  refine ⟨⟨g1.v (Or.inr (Or.inr (Or.inl rfl))), ⟨t1, (gx 4 (by decide)).trans t2, by rw [off 101 (by decide)]; exact t3⟩, (gx 10 (by decide)).trans g3, (gx 11 (by decide)).trans g4, (gx 5 (by decide)).trans a1, (gx 6 (by decide)).trans a2, (gx 7 (by decide)).trans a3, a4, fun z => (gx 9 (by decide)).trans (a5 z), fun z => (gx 9 (by decide)).trans (a6 z)⟩, ?_, (gx 14 (by decide)).trans l2, fun i hi => ?_, fun q hq => absurd hq (Nat.not_lt_zero _)⟩
  · rw [sI_r, if_pos rfl, upd_r, if_pos rfl, l1, nI_1]
  · by_cases ei : i = n
    · subst ei
      rw [en]
      have row : ∀ w, w < 20 → w ≠ 7 → (sI τ 98 12 (τ.1 98 12 + 1)).1 102 (20 * i + w) = R w := fun w w1 w2 => by rw [off 102 (by decide)]; exact (r w w1).trans (u7 w w2)
      refine ⟨(row 0 (by decide) (by decide)).trans r0, (row 1 (by decide) (by decide)).trans r1, (row 2 (by decide) (by decide)).trans r2, fun z => (row 3 (by decide) (by decide)).trans (h3 z), (row 4 (by decide) (by decide)).trans r4, (row 5 (by decide) (by decide)).trans r5, (row 6 (by decide) (by decide)).trans r6, ?_, fun z => ⟨(row 3 (by decide) (by decide)).trans (h4 z).1, fun k hk => ?_⟩, fun q hq => by rw [off 103 (by decide)]; exact l4 q hq⟩
      · rw [off 102 (by decide)]
        exact (r 7 (by decide)).trans (by rw [upd_r, if_pos rfl])
      · have hcl := hc6' z
        replace hk : k < cs.length := hk
        obtain ⟨c1, c2⟩ := (h4 z).2 k hk
        refine ⟨?_, ?_⟩
        · have := (row (8 + 2 * k) (by omega) (by omega)).trans c1
          rw [← Nat.add_assoc] at this
          exact this
        · have := (row (9 + 2 * k) (by omega) (by omega)).trans c2
          rw [← Nat.add_assoc] at this
          exact this
    · have eo : updR ρ n (kd, nm, lg, fi, fr, to, c, s, cs) i = ρ i := if_neg ei
      rw [eo]
      have := l3 i (by omega)
      exact this.cong (hc6 i (by omega)) (fun x _ _ => by rw [off 102 (by decide)]) (fun q _ => by rw [off 103 (by decide)])
theorem VL.u {ρ : Rho} {n c j : Nat} (v : VL ρ n c j) : ∀ x, x < 2 ^ 31 → ∀ i, (fdR ρ n x = some i ↔ i < n ∧ nI (ρ i).nm = nI x) := fun x hx i => by
  constructor
  · intro h; exact fdR_lt h
  · intro ⟨hi, he⟩
    obtain ⟨a1, -, a3⟩ := v.2.2.1 i hi
    have hnm : (ρ i).nm < 2 ^ 31 := by
      have h1 := a1.2.1.2.2.2
      have h2 : 27 ^ (ρ i).lg ≤ 27 ^ 5 := Nat.pow_le_pow_right (by omega) a1.2.1.2.1
      have h3 : (27 : Nat) ^ 5 < 2 ^ 31 := by decide
      omega
    have := (nI_eq hnm hx).mp he
    rw [← this]
    exact a3
/-! the kinds of faults -/
def ErP (sub : Nat → Res) : Prop := ∀ j k jf, sub j = .error (k, jf) → 0 < k ∧ k < 4
theorem lp_Er {mk : Nat → Nat} {sub : Nat → Res} (hs : ErP sub) : ∀ c j s k jf, lp mk sub c j s = .error (k, jf) → 0 < k ∧ k < 4 := by
  intro c
  induction c with
  | zero => intro j s k jf h; cases h
  | succ c ih =>
    intro j s k jf h
    unfold lp at h
    by_cases e : mk j = 0
    · rw [if_pos e] at h; cases h
    · rw [if_neg e] at h
      cases hsub : sub (j + 1) with
      | error x =>
        rw [hsub] at h
        injection h with h
        rw [h] at hsub
        exact hs _ _ _ hsub
      | ok p =>
        obtain ⟨j1, s1⟩ := p
        rw [hsub] at h
        exact ih _ _ _ _ h
theorem lvl_Er {mk : Nat → Nat} {sub : Nat → Res} {c : Nat} (hs : ErP sub) : ErP (lvl mk sub c) := by
  intro j k jf h
  unfold lvl at h
  cases hsub : sub j with
  | error x =>
    rw [hsub] at h
    injection h with h
    rw [h] at hsub
    exact hs _ _ _ hsub
  | ok p =>
    obtain ⟨j1, s1⟩ := p
    rw [hsub] at h
    exact lp_Er hs _ _ _ _ _ h
theorem oneF_Er {b : Nat → Nat} {m : Nat} {fd : Nat → Option Nat} {tb : Nat → Bool} {go : Bool} {E self : Nat → Res} (hE : go = true → ErP E) (hS : go = true → ErP self) : ErP (oneF b m fd tb go E self) := by
  intro j k jf h
  have lit : ∀ {x y : Nat}, (Except.error (x, y) : Res) = .error (k, jf) → 0 < x → x < 4 → 0 < k ∧ k < 4 := fun h h0 h4 => by
    injection h with h
    injection h with h1 h2
    omega
  have pass : ∀ {sub : Nat → Res} {j0 : Nat} {x : Nat × Nat}, ErP sub → sub j0 = .error x → (Except.error x : Res) = .error (k, jf) → 0 < k ∧ k < 4 := fun hs h1 h2 => by
    injection h2 with h2
    rw [h2] at h1
    exact hs _ _ _ h1
  unfold oneF at h
  split at h
  · cases h
  · split at h
    · cases hf : fd (wv b (tk b m j)) with
      | none => rw [hf] at h; exact lit h (by decide) (by decide)
      | some i =>
        rw [hf] at h
        replace h : nameF b m tb go E i j = .error (k, jf) := h
        unfold nameF at h
        split at h
        · split at h
          · rename_i hg
            cases hE2 : E (j + 2) with
            | error x => rw [hE2] at h; exact pass (hE hg.2) hE2 h
            | ok p =>
              obtain ⟨j1, s1⟩ := p
              rw [hE2] at h
              replace h : (if isS b (tk b m j1) 93 then (Except.ok (j1 + 1, s1 ++ [200000 + i]) : Res) else .error (1, j1)) = .error (k, jf) := h
              split at h
              · cases h
              · exact lit h (by decide) (by decide)
          · exact lit h (by decide) (by decide)
        · cases h
    · split at h
      · rename_i hg
        split at h
        · unfold mnF at h
          cases hs : self (j + 1) with
          | error x => rw [hs] at h; exact pass (hS hg) hs h
          | ok p => obtain ⟨j1, s1⟩ := p; rw [hs] at h; cases h
        · split at h
          · unfold brF at h
            cases hE2 : E (j + 1) with
            | error x => rw [hE2] at h; exact pass (hE hg) hE2 h
            | ok p =>
              obtain ⟨j1, s1⟩ := p
              rw [hE2] at h
              replace h : (if isS b (tk b m j1) 41 then (Except.ok (j1 + 1, s1) : Res) else .error (1, j1)) = .error (k, jf) := h
              split at h
              · cases h
              · exact lit h (by decide) (by decide)
          · split at h
            · unfold lsF at h
              split at h
              · cases hE2 : E (j + 2) with
                | error x => rw [hE2] at h; exact pass (hE hg) hE2 h
                | ok p =>
                  obtain ⟨j1, s1⟩ := p
                  rw [hE2] at h
                  replace h : (if isS b (tk b m j1) 44 then (match E (j1 + 1) with
                    | .error e => (.error e : Res)
                    | .ok (j2, s2) => if isS b (tk b m j2) 41 then .ok (j2 + 1, s1 ++ s2 ++ [400000]) else .error (1, j2)) else .error (1, j1)) = .error (k, jf) := h
                  split at h
                  · cases hE3 : E (j1 + 1) with
                    | error x => rw [hE3] at h; exact pass (hE hg) hE3 h
                    | ok p =>
                      obtain ⟨j2, s2⟩ := p
                      rw [hE3] at h
                      replace h : (if isS b (tk b m j2) 41 then (Except.ok (j2 + 1, s1 ++ s2 ++ [400000]) : Res) else .error (1, j2)) = .error (k, jf) := h
                      split at h
                      · cases h
                      · exact lit h (by decide) (by decide)
                  · exact lit h (by decide) (by decide)
              · exact lit h (by decide) (by decide)
            · exact lit h (by decide) (by decide)
      · exact lit h (by decide) (by decide)
theorem pOne_Er {b : Nat → Nat} {m : Nat} {fd : Nat → Option Nat} {tb : Nat → Bool} : ∀ r, ErP (pOne b m fd tb r)
  | 0 => oneF_Er (fun z => by cases z) (fun z => by cases z)
  | r + 1 => oneF_Er (fun _ => lvl_Er (lvl_Er (lvl_Er (pOne_Er r)))) (fun _ => pOne_Er r)
theorem pE_Er {b : Nat → Nat} {m : Nat} {fd : Nat → Option Nat} {tb : Nat → Bool} {j k jf : Nat} (h : pExp b m (pOne b m fd tb 4) j = .error (k, jf)) : 0 < k ∧ k < 4 := lvl_Er (lvl_Er (lvl_Er (pOne_Er 4))) j k jf h
theorem p_mE {K : Po} {b : Nat → Nat} {m : Nat} {σ00 : Hp} {ρ : Rho} {n c j : Nat} {R : Nat → Int32} {σ : Hp} (hm : m ≤ 300) (hb : ∀ k, k < m → b k < 256) (hn : n < 16) (v : VL ρ n c j) (hjm : j ≤ m) (h : MN b m σ00 ρ n c j [] R σ)
    (q1 : ∀ j' s, pExp b m (pOne b m (fdR ρ n) (tbR ρ) 4) j = .ok (j', s) → ∀ τ : Hp, MN b m σ00 ρ n c j' s R τ → K none τ)
    (q2 : ∀ j' s, pExp b m (pOne b m (fdR ρ n) (tbR ρ) 4) j = .ok (j', s) → ¬ isS b (tk b m j') 59 → ∀ τ : Hp, MFt σ00 1 (tk b m j').2.1 τ → K none τ)
    (q0 : ∀ k jf, pExp b m (pOne b m (fdR ρ n) (tbR ρ) 4) j = .error (k, jf) → 0 < k → k < 4 → ∀ τ : Hp, MFt σ00 k (tk b m jf).2.1 τ → K none τ) : CTs 10 y_M_wantE [.ref 98] σ K := by
  obtain ⟨g, l, r⟩ := h
  let e : EC := (b, m, n, c, fdR ρ n, tbR ρ, 0, σ)
  have k : MOk e := by
    refine ⟨hm, hb, hn, g.2.1, l.1, fun x hx i => (v.u x hx i).trans ?_, fun i hi => ?_⟩
    · constructor
      · intro z; exact ⟨z.1, (l.2.2.1 i z.1).2.1.trans z.2⟩
      · intro z; exact ⟨z.1, (l.2.2.1 i z.1).2.1.symm.trans z.2⟩
    · show σ.1 102 (20 * i) = 4 ↔ tbR ρ i = true
      have := (v.2.2.1 i hi).1.1.2
      rw [(l.2.2.1 i hi).1, tbR_4]
      exact nI_eq (b := 4) (by omega) (by omega)
  have ff : ∀ kf jf, 0 < kf → kf < 4 → (∀ τ : Hp, MFt σ00 kf (tk b m jf).2.1 τ → K none τ) → FF e K kf jf := fun kf jf h1 h2 q τ j P E o hr => q τ ⟨g.1.X hr.2.2.2.2.2.2.2.2, hr.2.2.2.2.2.2.2.1.1, hr.2.2.2.2.2.2.2.1.2, h1, h2⟩
  refine cts_up (by decide) (p_wantE (e := e) (j := j) k (fdR_16 (by omega)) g.2.2.2.2 (by rw [l.2.1]; rfl) g.2.2.1 g.2.2.2.1 rfl v.2.1 hjm (fun j' s hs h1 h2 h3 => ⟨fun τ hr => q1 j' s hs τ ?_, fun h59 => ff 1 j' (by decide) (by decide) (q2 j' s hs h59)⟩) (fun kf jf hs => ?_))
  · obtain ⟨w1, w2, w3, w4, w5, w6, w7, w8, w9⟩ := hr
    have f2 : τ.1 102 = σ.1 102 := w9.1 102 (by decide) (by decide) (by decide)
    refine ⟨⟨g.1.X w9, k.tp w9, w8.1, w8.2, w1⟩, ⟨(w9.2.1 12 (by decide) (by decide) (by decide) (by decide) (by decide) (by decide) (by decide) (by decide) (by decide)).trans l.1, w2, fun i hi => ?_, w3⟩, fun w hw => by rw [f2]; exact r w hw⟩
    refine (l.2.2.1 i hi).cong (fun h4 => ((v.2.2.1 i hi).1.2.2.2.2.2.2.2.2.2.2 h4).2.1) (fun x _ _ => by rw [f2]) (fun q hq => w4 _ ?_)
    have := (v.2.2.1 i hi).2.1
    show _ < c
    omega
  · obtain ⟨k1, k2⟩ := pE_Er hs
    exact ff kf jf k1 k2 (q0 kf jf hs k1 k2)
