/-! ===== what is read is whole ===== -/
theorem getD_appP {s : List (Nat × Nat)} {x : Nat × Nat} {q : Nat} (h : q < s.length + 1) : (s ++ [x]).getD q (0, 0) = if q = s.length then x else s.getD q (0, 0) := by
  rw [List.getD_eq_getElem?_getD, List.getD_eq_getElem?_getD]
  by_cases e : q = s.length
  · rw [if_pos e, e, List.getElem?_append_right (Nat.le_refl _), Nat.sub_self]; rfl
  · rw [if_neg e, List.getElem?_append_left (by omega)]
theorem isN_m {b : Nat → Nat} {m j lo hi : Nat} (h : isNu b (tk b m j) lo hi) : j < m := tkm (by rw [h.1]; decide)
theorem isK_m {b : Nat → Nat} {m j c : Nat} (h : isK b (tk b m j) c) : j < m := tkm (by rw [h.1]; decide)
theorem isNm_m {b : Nat → Nat} {m j : Nat} (h : isNm b (tk b m j)) : j < m := tkm (by rw [h.1]; decide)
theorem pCor_ok {b : Nat → Nat} {m k la j : Nat} {x : Nat × Nat} (h : pCor b m k la j = .ok x) : isNu b (tk b m j) 0 99999 ∧ ¬ (0 < k ∧ dv b (tk b m j) ≤ la) ∧ isS b (tk b m (j + 1)) 58 ∧ isNu b (tk b m (j + 2)) 0 99999 ∧ x = (dv b (tk b m j), dv b (tk b m (j + 2))) := by
  unfold pCor at h
  split at h
  · rename_i h1
    split at h
    · cases h
    · rename_i h2
      split at h
      · rename_i h3
        split at h
        · rename_i h4
          injection h with h
          exact ⟨h1, h2, h3, h4, h.symm⟩
        · cases h
      · cases h
  · cases h
theorem corV_app {cs : List (Nat × Nat)} {x : Nat × Nat} (h : corV cs) (h1 : x.1 ≤ 99999) (h2 : x.2 ≤ 99999) (h3 : ¬ (0 < cs.length ∧ x.1 ≤ laC cs)) : corV (cs ++ [x]) := by
  have hl : (cs ++ [x]).length = cs.length + 1 := List.length_append
  refine ⟨fun k hk => ?_, fun k hk => ?_⟩
  · rw [hl] at hk
    rw [getD_appP hk]
    split
    · exact ⟨h1, h2⟩
    · exact h.1 k (by omega)
  · rw [hl] at hk
    rw [getD_appP (by omega), getD_appP (by omega), if_neg (by omega)]
    split
    · rename_i e
      unfold laC at h3
      rw [show cs.length - 1 = k by omega] at h3
      omega
    · exact h.2 k (by omega)
theorem pCors_ok {b : Nat → Nat} {m : Nat} : ∀ (f : Nat) (cs : List (Nat × Nat)) (j j' : Nat) (cs' : List (Nat × Nat)), pCors b m f cs j = .ok (j', cs') → cs.length + f = 6 → corV cs → (f = 0 ∨ j < j' ∧ j' ≤ m) ∧ corV cs' ∧ 2 ≤ cs'.length ∧ cs'.length ≤ 6
  | 0, cs, j, j', cs', h, hl, hv => by
    injection h with h
    injection h with h1 h2
    rw [← h2]
    exact ⟨Or.inl rfl, hv, by omega, by omega⟩
  | f + 1, cs, j, j', cs', h, hl, hv => by
    unfold pCors at h
    cases hc : pCor b m cs.length (laC cs) j with
    | error x => rw [hc] at h; cases h
    | ok x =>
      rw [hc] at h
      obtain ⟨c1, c2, c3, c4, c5⟩ := pCor_ok hc
      have v2 : corV (cs ++ [x]) := corV_app hv (by rw [c5]; exact c1.2.2.2) (by rw [c5]; exact c4.2.2.2) (by rw [c5]; exact c2)
      have hl2 : (cs ++ [x]).length = cs.length + 1 := List.length_append
      have hm := isN_m c4
      replace h : (if isS b (tk b m (j + 3)) 44 then (if cs.length = 5 then .error (1, j + 3) else pCors b m f (cs ++ [x]) (j + 4)) else if 0 < cs.length then .ok (j + 3, cs ++ [x]) else .error (1, j + 3)) = Except.ok (j', cs') := h
      split at h
      · split at h
        · cases h
        · have := pCors_ok f (cs ++ [x]) (j + 4) j' cs' h (by omega) v2
          obtain ⟨r1, r2, r3, r4⟩ := this
          exact ⟨Or.inr (by omega), r2, r3, r4⟩
      · split at h
        · injection h with h
          injection h with h1 h2
          rw [← h2, ← h1]
          exact ⟨Or.inr (by omega), v2, by omega, by omega⟩
        · cases h
def BodyV (ρ : Rho) (n kd fi : Nat) (s : List Nat) (cs : List (Nat × Nat)) : Prop := (∀ x ∈ s, x < 400002) ∧ ((kd = 2 ∨ kd = 3 ∨ kd = 6) → ∀ th : Nat → Int32, (∀ t, t < n → (ρ t).kd = 4 → th (20 * t) = 4) → hgl th n s 0 = some 1) ∧ (∀ i, i < 16 → men s i → i < n) ∧ (kd = 2 → 1 ≤ fi ∧ fi ≤ 9) ∧ (kd = 1 ∨ kd = 5 → fi ≤ 99999) ∧ (kd = 4 → 2 ≤ cs.length ∧ cs.length ≤ 6 ∧ corV cs)
theorem tbR_4 {ρ : Rho} {t : Nat} : tbR ρ t = true ↔ (ρ t).kd = 4 := by
  unfold tbR
  exact beq_iff_eq
theorem men_nil {i : Nat} : ¬ men [] i := fun z => by rcases z with z | z <;> cases z
theorem fdR_16 {ρ : Rho} {n : Nat} (hn : n ≤ 16) : ∀ x i, fdR ρ n x = some i → i < 16 := fun x i h => by have := (fdR_lt h).1; omega
theorem pE_ok {b : Nat → Nat} {m : Nat} {ρ : Rho} {n j j' : Nat} {s : List Nat} (hm : m ≤ 300) (hb : ∀ k, k < m → b k < 256) (hn : n ≤ 16) (h : pExp b m (pOne b m (fdR ρ n) (tbR ρ) 4) j = .ok (j', s)) : j < j' ∧ j' ≤ m ∧ s.length + j ≤ j' ∧ (∀ x ∈ s, x < 400002) ∧ (∀ th : Nat → Int32, (∀ t, t < n → (ρ t).kd = 4 → th (20 * t) = 4) → hgl th n s 0 = some 1) ∧ (∀ i, i < 16 → men s i → i < n) := by
  obtain ⟨g1, g2, g3, g4⟩ := (pExp_Gd (b := b) (pOne_Gd (tb := tbR ρ) hm hb (fdR_16 (ρ := ρ) hn) 4)).2.2 _ _ _ h
  have hh : ∀ th : Nat → Int32, (∀ t, t < n → (ρ t).kd = 4 → th (20 * t) = 4) → hgl th n s 0 = some 1 := fun th hth => pE_Hg hn (fun x t hx => (fdR_lt hx).1) (fun t ht h4 => hth t ht (tbR_4.mp h4)) h
  exact ⟨g1, g2, g3, g4, hh, fun i hi hmn => hg_men s 0 1 hn (hh (fun _ => 4) (fun _ _ _ => rfl)) hi hmn⟩
theorem pBody_ok {b : Nat → Nat} {m : Nat} {ρ : Rho} {n kd j j' fi : Nat} {s : List Nat} {cs : List (Nat × Nat)} (hm : m ≤ 300) (hb : ∀ k, k < m → b k < 256) (hn : n ≤ 16) (h : pBody b m ρ n kd j = .ok (j', fi, s, cs)) : j < j' ∧ j' ≤ m ∧ s.length + j ≤ j' ∧ BodyV ρ n kd fi s cs := by
  unfold pBody at h
  split at h
  · rename_i h1
    split at h
    · rename_i h2
      have := isN_m h2
      injection h with h
      injection h with e1 h
      injection h with e2 h
      injection h with e3 e4
      rw [← e1, ← e2, ← e3, ← e4]
      refine ⟨by omega, by omega, by show 0 + j ≤ j + 1; omega, (fun x hx => by cases hx), fun z => by omega, fun i _ z => absurd z men_nil, fun z => by omega, fun _ => h2.2.2.2, fun z => by omega⟩
    · cases h
  · rename_i h1
    split at h
    · rename_i h2
      split at h
      · rename_i h3
        split at h
        · cases hE : pExp b m (pOne b m (fdR ρ n) (tbR ρ) 4) (j + 2) with
          | error x => rw [hE] at h; cases h
          | ok p =>
            obtain ⟨j1, s1⟩ := p
            rw [hE] at h
            obtain ⟨g1, g2, g3, g4, g5, g6⟩ := pE_ok hm hb hn hE
            injection h with h
            injection h with e1 h
            injection h with e2 h
            injection h with e3 e4
            rw [← e1, ← e2, ← e3, ← e4]
            exact ⟨by omega, g2, by omega, g4, fun _ => g5, g6, fun _ => h3.2.2, fun z => by omega, fun z => by omega⟩
        · cases h
      · cases h
    · rename_i h2
      split at h
      · rename_i h3
        cases hC : pCors b m 6 [] j with
        | error x => rw [hC] at h; cases h
        | ok p =>
          obtain ⟨j1, c1⟩ := p
          rw [hC] at h
          obtain ⟨g1, g2, g3, g4⟩ := pCors_ok 6 [] j j1 c1 hC rfl ⟨fun k hk => absurd hk (Nat.not_lt_zero _), fun k hk => absurd hk (Nat.not_lt_zero _)⟩
          obtain ⟨g1, g1'⟩ := g1.resolve_left (by decide)
          injection h with h
          injection h with e1 h
          injection h with e2 h
          injection h with e3 e4
          rw [← e1, ← e2, ← e3, ← e4]
          exact ⟨g1, g1', by show 0 + j ≤ j1; omega, (fun x hx => by cases hx), fun z => by omega, fun i _ z => absurd z men_nil, fun z => by omega, fun z => by omega, fun _ => ⟨g3, g4, g2⟩⟩
      · rename_i h3
        cases hE : pExp b m (pOne b m (fdR ρ n) (tbR ρ) 4) j with
        | error x => rw [hE] at h; cases h
        | ok p =>
          obtain ⟨j1, s1⟩ := p
          rw [hE] at h
          obtain ⟨g1, g2, g3, g4, g5, g6⟩ := pE_ok hm hb hn hE
          injection h with h
          injection h with e1 h
          injection h with e2 h
          injection h with e3 e4
          rw [← e1, ← e2, ← e3, ← e4]
          exact ⟨g1, g2, g3, g4, fun _ => g5, g6, fun z => by omega, fun z => by omega, fun z => by omega⟩
theorem pEnd_ok {b : Nat → Nat} {m : Nat} {ρ : Rho} {n j : Nat} {e : Option Nat} (h : pEnd b m ρ n j = .ok e) : j < m ∧ endV ρ n 3 e := by
  unfold pEnd at h
  split at h
  · rename_i h1
    injection h with h
    exact ⟨isK_m h1, Or.inl h.symm⟩
  · split at h
    · rename_i h2
      cases hf : fdR ρ n (wv b (tk b m j)) with
      | none => rw [hf] at h; cases h
      | some i =>
        rw [hf] at h
        replace h : (if (ρ i).kd = 1 then (.ok (some i) : Except (Nat × Nat) (Option Nat)) else .error (3, j)) = .ok e := h
        split at h
        · rename_i h3
          injection h with h
          exact ⟨isNm_m h2, Or.inr ⟨rfl, i, (fdR_lt hf).1, h.symm, h3⟩⟩
        · cases h
    · cases h
theorem pTail_ok {b : Nat → Nat} {m : Nat} {ρ : Rho} {n c kd nm lg j j' : Nat} {fr to : Option Nat} {r : RcT} (hm : m ≤ 300) (hb : ∀ k, k < m → b k < 256) (hn : n ≤ 16) (hc : c ≤ j) (hk : 1 ≤ kd ∧ kd ≤ 6) (hnm : 1 ≤ lg ∧ lg ≤ 5 ∧ 27 ^ (lg - 1) ≤ nm ∧ nm < 27 ^ lg) (hf : endV ρ n kd fr) (ht : endV ρ n kd to) (h : pTail b m ρ n c kd nm lg fr to j = .ok (j', r)) : j < j' ∧ j' ≤ m ∧ c + r.s.length ≤ j' ∧ r.c = c ∧ r.nm = nm ∧ VR ρ n r := by
  unfold pTail at h
  split at h
  · cases hB : pBody b m ρ n kd (j + 1) with
    | error x => rw [hB] at h; cases h
    | ok p =>
      obtain ⟨j1, fi, s, cs⟩ := p
      rw [hB] at h
      obtain ⟨g1, g2, g3, v1, v2, v3, v4, v5, v6⟩ := pBody_ok hm hb hn hB
      replace h : (if isS b (tk b m j1) 59 then (.ok (j1 + 1, (kd, nm, lg, fi, fr, to, c, s, cs)) : Except (Nat × Nat) (Nat × RcT)) else .error (1, j1)) = .ok (j', r) := h
      split at h
      · rename_i h59
        have := isS_m h59
        injection h with h
        injection h with e1 e2
        rw [← e1, ← e2]
        refine ⟨by omega, by omega, by show c + s.length ≤ j1 + 1; omega, rfl, rfl, hk, hnm, hf, ht, by show c + s.length ≤ 300; omega, v1, v2, v3, v4, v5, v6⟩
      · cases h
  · cases h
theorem pThing_ok {b : Nat → Nat} {m : Nat} {ρ : Rho} {n c j j' : Nat} {r : RcT} (hm : m ≤ 300) (hb : ∀ k, k < m → b k < 256) (hn : n ≤ 16) (hc : c ≤ j) (h : pThing b m ρ n c j = .ok (j', r)) : j < j' ∧ j' ≤ m ∧ c + r.s.length ≤ j' ∧ r.c = c ∧ fdR ρ n r.nm = none ∧ VR ρ n r := by
  unfold pThing at h
  split at h
  · cases h
  · rename_i hk
    split at h
    · rename_i hNm
      have tb := tk_TB hm hb (j + 1)
      have h7 := tb.2.2.2.2.2.2 (by rw [hNm.1]; decide)
      have hnm := (tb.2.2.2.1 hNm.1).2 hNm.2.1
      have hnm5 := hNm.2.1
      cases hf : fdR ρ n (wv b (tk b m (j + 1))) with
      | some i => rw [hf] at h; cases h
      | none =>
        rw [hf] at h
        replace h : (if kdT b (tk b m j) = 3 then (match pEnds b m ρ n (j + 2) with
          | .error e => (.error e : Except (Nat × Nat) (Nat × RcT))
          | .ok (fr, to) => pTail b m ρ n c 3 (wv b (tk b m (j + 1))) ((tk b m (j + 1)).2.2 - (tk b m (j + 1)).2.1) fr to (j + 6))
          else pTail b m ρ n c (kdT b (tk b m j)) (wv b (tk b m (j + 1))) ((tk b m (j + 1)).2.2 - (tk b m (j + 1)).2.1) none none (j + 2)) = .ok (j', r) := h
        split at h
        · cases hE : pEnds b m ρ n (j + 2) with
          | error x => rw [hE] at h; cases h
          | ok p =>
            obtain ⟨fr, to⟩ := p
            rw [hE] at h
            have hEs : endV ρ n 3 fr ∧ endV ρ n 3 to := by
              unfold pEnds at hE
              split at hE
              · cases h1 : pEnd b m ρ n (j + 2 + 1) with
                | error x => rw [h1] at hE; cases hE
                | ok fr1 =>
                  rw [h1] at hE
                  replace hE : (if isK b (tk b m (j + 2 + 2)) 555 then (match pEnd b m ρ n (j + 2 + 3) with
                    | .error e => (.error e : Except (Nat × Nat) (Option Nat × Option Nat))
                    | .ok to => .ok (fr1, to)) else .error (1, j + 2 + 2)) = .ok (fr, to) := hE
                  split at hE
                  · cases h2 : pEnd b m ρ n (j + 2 + 3) with
                    | error x => rw [h2] at hE; cases hE
                    | ok to1 =>
                      rw [h2] at hE
                      injection hE with hE
                      injection hE with e1 e2
                      rw [← e1, ← e2]
                      exact ⟨(pEnd_ok h1).2, (pEnd_ok h2).2⟩
                  · cases hE
              · cases hE
            obtain ⟨r1, r2, r3, r4, r5, r6⟩ := pTail_ok hm hb hn (by omega) (by decide) ⟨by omega, hnm5, hnm.1, hnm.2⟩ hEs.1 hEs.2 h
            exact ⟨by omega, r2, r3, r4, by rw [r5]; exact hf, r6⟩
        · have hk6 := kdT_le (b := b) (t := tk b m j)
          obtain ⟨r1, r2, r3, r4, r5, r6⟩ := pTail_ok hm hb hn (by omega) ⟨by omega, hk6⟩ ⟨by omega, hnm5, hnm.1, hnm.2⟩ (Or.inl rfl) (Or.inl rfl) h
          exact ⟨by omega, r2, r3, r4, by rw [r5]; exact hf, r6⟩
    · cases h
theorem VR.upd {ρ : Rho} {n : Nat} {x r : RcT} {b : Nat} (h : VR ρ b r) (hb : b ≤ n) : VR (updR ρ n x) b r := by
  have e : ∀ t, t < b → updR ρ n x t = ρ t := fun t ht => if_neg (by omega)
  have en : ∀ {k : Nat} {o : Option Nat}, endV ρ b k o → endV (updR ρ n x) b k o := fun z => by
    rcases z with z | ⟨z1, i, z2, z3, z4⟩
    · exact Or.inl z
    · exact Or.inr ⟨z1, i, z2, z3, by rw [e i z2]; exact z4⟩
  obtain ⟨h1, h2, h3, h4, h5, h6, h7, h8, h9, h10, h11⟩ := h
  exact ⟨h1, h2, en h3, en h4, h5, h6, fun z th hth => h7 z th (fun t ht h4 => hth t ht (by rw [e t ht]; exact h4)), h8, h9, h10, h11⟩
theorem fnd_suc {f : Nat → Int32} {x : Int32} : ∀ c k, fnd f x (c + 1) k = (match fnd f x c k with
    | some i => some i
    | none => if f (k + c) = x then some (k + c) else none) := by
  intro c
  induction c with
  | zero => intro k; rfl
  | succ c ih =>
    intro k
    have := ih (k + 1)
    unfold fnd
    by_cases e : f k = x
    · rw [if_pos e, if_pos e]
    · rw [if_neg e, if_neg e, this, show k + 1 + c = k + (c + 1) by omega]
theorem VL.suc {ρ : Rho} {n c j j' : Nat} {r : RcT} (v : VL ρ n c j) (hn : n < 16) (h3 : c + r.s.length ≤ j') (h4 : r.c = c) (h5 : fdR ρ n r.nm = none) (h6 : VR ρ n r) : VL (updR ρ n r) (n + 1) (c + r.s.length) j' := by
  obtain ⟨v1, v2, v3, v4⟩ := v
  have e : ∀ t, t < n → updR ρ n r t = ρ t := fun t ht => if_neg (by omega)
  have en : updR ρ n r n = r := if_pos rfl
  have hfd : ∀ x, fdR (updR ρ n r) n x = fdR ρ n x := fun x => fnd_cong n 0 (fun t _ ht => by rw [e t (by omega)])
  have hfs : ∀ x, fdR (updR ρ n r) (n + 1) x = (match fdR ρ n x with
    | some i => some i
    | none => if nI r.nm = nI x then some n else none) := fun x => by
    have := fnd_suc (f := fun i => nI (updR ρ n r i).nm) (x := nI x) n 0
    rw [Nat.zero_add, en] at this
    rw [← hfd x]
    exact this
  refine ⟨by omega, h3, fun i hi => ?_, fun k hk => ?_⟩
  · by_cases ei : i = n
    · rw [ei, en]
      refine ⟨h6.upd (Nat.le_refl _), by omega, ?_⟩
      rw [hfs, h5]
      exact if_pos rfl
    · rw [e i (by omega)]
      obtain ⟨a1, a2, a3⟩ := v3 i (by omega)
      refine ⟨a1.upd (by omega), by omega, ?_⟩
      rw [hfs, a3]
  · by_cases hk2 : k < c
    · obtain ⟨i, a1, a2, a3⟩ := v4 k hk2
      exact ⟨i, by omega, by rw [e i a1]; exact a2, by rw [e i a1]; exact a3⟩
    · exact ⟨n, by omega, by rw [en]; omega, by rw [en]; omega⟩
