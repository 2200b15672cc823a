/-! ===== the reference reads an E: whole ===== -/
theorem oneM {e : EC} {Q : Po} (k : MOk e) {go : Bool} {E0 self : Nat → Res} {o kk : Nat} (hgo : go = true ↔ o + kk < 4) (ho : o + kk ≤ 4) (hE : go = true → SpE e Q E0 (o + kk + 1)) (gE : Gd e.m E0)
    (hS : go = true → ∀ (j : Nat) (R E : List Nat), e.c0 + E.length + (kk + 1) + R.length ≤ j → j ≤ e.m → ¬ R.headD 0 = 400001 → R.headD 0 < 2 ^ 31 → (∀ j' s, self j = .ok (j', s) → GG e Q 0 j' R (E ++ s ++ List.replicate (kk + 1) 400001) o) → (∀ k jf, self j = .error (k, jf) → FF e Q k jf) → GG e Q 1 j (List.replicate (kk + 1) 400001 ++ R) E (o + (kk + 1)))
    {j : Nat} {R E : List Nat} (hb : e.c0 + E.length + kk + R.length ≤ j) (hjm : j ≤ e.m) (hR : ¬ R.headD 0 = 400001) (hR2 : R.headD 0 < 2 ^ 31)
    (hok : ∀ j' s, oneF e.b e.m e.fd e.tb go E0 self j = .ok (j', s) → GG e Q 0 j' R (E ++ s ++ List.replicate kk 400001) o) (her : ∀ k jf, oneF e.b e.m e.fd e.tb go E0 self j = .error (k, jf) → FF e Q k jf) : GG e Q 1 j (List.replicate kk 400001 ++ R) E (o + kk) := by
  have fnm : ¬ isNu e.b (tk e.b e.m j) 0 99999 → isNm e.b (tk e.b e.m j) → oneF e.b e.m e.fd e.tb go E0 self j = match e.fd (wv e.b (tk e.b e.m j)) with
    | none => .error (2, j)
    | some i => nameF e.b e.m e.tb go E0 i j := fun h hn => by
    unfold oneF
    rw [if_neg h, if_pos hn]
    rfl
  have fel : ¬ isNu e.b (tk e.b e.m j) 0 99999 → ¬ isNm e.b (tk e.b e.m j) → oneF e.b e.m e.fd e.tb go E0 self j = (if go = true then (if isS e.b (tk e.b e.m j) 45 then mnF self j else if isS e.b (tk e.b e.m j) 40 then brF e.b e.m E0 j else if isK e.b (tk e.b e.m j) 6476969 then lsF e.b e.m E0 j else .error (1, j)) else .error (1, j)) := fun h hn => by
    unfold oneF
    rw [if_neg h, if_neg hn]
  have hPl : (List.replicate kk 400001 ++ R).length = kk + R.length := by rw [List.length_append, List.length_replicate]
  refine sPart k hb hjm hR hR2 ho (fun h => hok _ _ (if_pos h)) (fun h hn h45 ho4 => ?_) (fun h hn h45 h40 ho4 => ?_) (fun h hn h45 h40 hK ho4 hx => ?_) (fun h hn i hi hf ht => ?_) (fun h hn i hi hf ht h91 ho4 => ?_) (fun h hn hor => ?_) (fun h hn h45 h40 hK ho4 hx => ?_) (fun h hn hf => ?_) (fun h hn i hi hf ht hno => ?_)
  · have hg := hgo.mpr ho4
    have hf := (fel h hn).trans ((if_pos hg).trans (if_pos h45))
    have hj := isS_m h45
    rw [hf] at hok her
    unfold mnF at hok her
    refine hS hg (j + 1) R E (by omega) (by omega) hR hR2 (fun j' s hs => ?_) (fun k jf hs => her k jf (by rw [hs]))
    have := hok j' (s ++ [400001]) (by rw [hs])
    have e1 : E ++ (s ++ [400001]) ++ List.replicate kk 400001 = E ++ s ++ List.replicate (kk + 1) 400001 := by
      rw [List.replicate_succ]
      simp only [List.append_assoc, List.cons_append, List.nil_append]
    rw [e1] at this
    exact this
  · have hg := hgo.mpr ho4
    have hf := (fel h hn).trans ((if_pos hg).trans ((if_neg h45).trans (if_pos h40)))
    have hj := isS_m h40
    rw [hf] at hok her
    unfold brF at hok her
    refine hE hg (j + 1) (400002 :: (List.replicate kk 400001 ++ R)) E (by show e.c0 + E.length + ((List.replicate kk 400001 ++ R).length + 1) ≤ j + 1; omega) (by omega) rfl (by show ¬ 400002 = 400001; decide) (by show 400002 < 2 ^ 31; decide) (fun j' s X S hs hX hS1 h21 hcm hb1 hlt hm1 => ?_) (fun k jf hs => her k jf (by rw [hs]))
    replace hb1 : e.c0 + X.length + S.length + ((List.replicate kk 400001 ++ R).length + 1) ≤ j' := hb1
    rw [hs] at hok her
    replace hok : ∀ ja sa, ((if isS e.b (tk e.b e.m j') 41 then (.ok (j' + 1, s) : Res) else .error (1, j'))) = .ok (ja, sa) → GG e Q 0 ja R (E ++ sa ++ List.replicate kk 400001) o := hok
    replace her : ∀ k jf, ((if isS e.b (tk e.b e.m j') 41 then (.ok (j' + 1, s) : Res) else .error (1, j'))) = .error (k, jf) → FF e Q k jf := her
    by_cases h0 : mk0 e.b e.m j' = 0
    · refine sEnd k (by omega) hm1 ⟨h21.1, h21.2, h0⟩ hS1 (by decide) (by decide) hR hR2 (fun z => absurd z (by decide)) (fun _ h41 => ?_) (fun z => absurd z (by decide)) (fun i z => absurd z (by omega)) (fun _ z _ _ => her 1 j' (if_neg (fun y => z ⟨rfl, y⟩)))
      rw [hX]
      exact hok (j' + 1) s (if_pos h41)
    · obtain ⟨ch, hc1, -, hc3⟩ := mk0_c h0
      exact mBad k h0 hcm hb1 (her 1 j' (if_neg (fun y => by have := y.2; have := hc3.2; omega)))
  · have hg := hgo.mpr ho4
    have hf := (fel h hn).trans ((if_pos hg).trans ((if_neg h45).trans ((if_neg h40).trans (if_pos hK))))
    have hj := isS_m hx
    rw [hf] at hok her
    unfold lsF at hok her
    rw [if_pos hx] at hok her
    refine hE hg (j + 2) (400003 :: (List.replicate kk 400001 ++ R)) E (by show e.c0 + E.length + ((List.replicate kk 400001 ++ R).length + 1) ≤ j + 2; omega) (by omega) rfl (by show ¬ 400003 = 400001; decide) (by show 400003 < 2 ^ 31; decide) (fun j1 s1 X S hs hX hS1 h21 hcm hb1 hlt hm1 => ?_) (fun k jf hs => her k jf (by rw [hs]))
    replace hb1 : e.c0 + X.length + S.length + ((List.replicate kk 400001 ++ R).length + 1) ≤ j1 := hb1
    rw [hs] at hok her
    replace hok : ∀ ja sa, (if isS e.b (tk e.b e.m j1) 44 then (match E0 (j1 + 1) with
        | .error e => (.error e : Res)
        | .ok (j2, s2) => if isS e.b (tk e.b e.m j2) 41 then .ok (j2 + 1, s1 ++ s2 ++ [400000]) else .error (1, j2)) else .error (1, j1)) = .ok (ja, sa) → GG e Q 0 ja R (E ++ sa ++ List.replicate kk 400001) o := hok
    replace her : ∀ k jf, (if isS e.b (tk e.b e.m j1) 44 then (match E0 (j1 + 1) with
        | .error e => (.error e : Res)
        | .ok (j2, s2) => if isS e.b (tk e.b e.m j2) 41 then .ok (j2 + 1, s1 ++ s2 ++ [400000]) else .error (1, j2)) else .error (1, j1)) = .error (k, jf) → FF e Q k jf := her
    by_cases h0 : mk0 e.b e.m j1 = 0
    · refine sEnd k (by omega) hm1 ⟨h21.1, h21.2, h0⟩ hS1 (by decide) (by decide) hR hR2 (fun _ h44 => ?_) (fun z => absurd z (by decide)) (fun z => absurd z (by decide)) (fun i z => absurd z (by omega)) (fun z _ _ _ => her 1 j1 (if_neg (fun y => z ⟨rfl, y⟩)))
      rw [hX]
      have hl := app_len hX
      have hj1 := isS_m h44
      rw [if_pos h44] at hok her
      refine hE hg (j1 + 1) (400004 :: (List.replicate kk 400001 ++ R)) (E ++ s1) (by rw [List.length_append]; show e.c0 + (E.length + s1.length) + ((List.replicate kk 400001 ++ R).length + 1) ≤ j1 + 1; omega) (by omega) rfl (by show ¬ 400004 = 400001; decide) (by show 400004 < 2 ^ 31; decide) (fun j2 s2 X2 S2 hs2 hX2 hS2 h212 hcm2 hb2 hlt2 hm2 => ?_) (fun k jf hs2 => her k jf (by rw [hs2]))
      replace hb2 : e.c0 + X2.length + S2.length + ((List.replicate kk 400001 ++ R).length + 1) ≤ j2 := hb2
      rw [hs2] at hok her
      replace hok : ∀ ja sa, ((if isS e.b (tk e.b e.m j2) 41 then (.ok (j2 + 1, s1 ++ s2 ++ [400000]) : Res) else .error (1, j2))) = .ok (ja, sa) → GG e Q 0 ja R (E ++ sa ++ List.replicate kk 400001) o := hok
      replace her : ∀ k jf, ((if isS e.b (tk e.b e.m j2) 41 then (.ok (j2 + 1, s1 ++ s2 ++ [400000]) : Res) else .error (1, j2))) = .error (k, jf) → FF e Q k jf := her
      by_cases h02 : mk0 e.b e.m j2 = 0
      · refine sEnd k (by omega) hm2 ⟨h212.1, h212.2, h02⟩ hS2 (by decide) (by decide) hR hR2 (fun z => absurd z (by decide)) (fun z => absurd z (by decide)) (fun _ h41 => ?_) (fun i z => absurd z (by omega)) (fun _ _ z _ => her 1 j2 (if_neg (fun y => z ⟨rfl, y⟩)))
        have := hok (j2 + 1) (s1 ++ s2 ++ [400000]) (if_pos h41)
        have e1 : E ++ (s1 ++ s2 ++ [400000]) ++ List.replicate kk 400001 = X2 ++ S2 ++ [400000] ++ List.replicate kk 400001 := by rw [hX2]; simp only [List.append_assoc]
        rw [e1] at this
        exact this
      · obtain ⟨ch, hc1, -, hc3⟩ := mk0_c h02
        exact mBad k h02 hcm2 hb2 (her 1 j2 (if_neg (fun y => by have := y.2; have := hc3.2; omega)))
    · obtain ⟨ch, hc1, -, hc3⟩ := mk0_c h0
      exact mBad k h0 hcm hb1 (her 1 j1 (if_neg (fun y => by have := y.2; have := hc3.2; omega)))
  · refine hok (j + 1) [100000 + i] ((fnm h hn).trans ?_)
    rw [hf]
    exact if_neg ht
  · have hg := hgo.mpr ho4
    have hff : oneF e.b e.m e.fd e.tb go E0 self j = match E0 (j + 2) with
      | .error e => .error e
      | .ok (j', s) => if isS e.b (tk e.b e.m j') 93 then .ok (j' + 1, s ++ [200000 + i]) else .error (1, j') := by
      refine (fnm h hn).trans ?_
      rw [hf]
      exact (if_pos ht).trans (if_pos ⟨h91, hg⟩)
    have hj := isS_m h91
    rw [hff] at hok her
    refine hE hg (j + 2) ((500000 + i) :: (List.replicate kk 400001 ++ R)) E (by show e.c0 + E.length + ((List.replicate kk 400001 ++ R).length + 1) ≤ j + 2; omega) (by omega) ?_ (by show ¬ 500000 + i = 400001; omega) (by show 500000 + i < 2 ^ 31; omega) (fun j' s X S hs hX hS1 h21 hcm hb1 hlt hm1 => ?_) (fun k jf hs => her k jf (by rw [hs]))
    · show bdN (500000 + i) = 0
      unfold bdN
      rw [if_neg (by omega), if_neg (by omega), if_neg (by omega)]
    · replace hb1 : e.c0 + X.length + S.length + ((List.replicate kk 400001 ++ R).length + 1) ≤ j' := hb1
      rw [hs] at hok her
      replace hok : ∀ ja sa, ((if isS e.b (tk e.b e.m j') 93 then (.ok (j' + 1, s ++ [200000 + i]) : Res) else .error (1, j'))) = .ok (ja, sa) → GG e Q 0 ja R (E ++ sa ++ List.replicate kk 400001) o := hok
      replace her : ∀ k jf, ((if isS e.b (tk e.b e.m j') 93 then (.ok (j' + 1, s ++ [200000 + i]) : Res) else .error (1, j'))) = .error (k, jf) → FF e Q k jf := her
      by_cases h0 : mk0 e.b e.m j' = 0
      · refine sEnd k (by omega) hm1 ⟨h21.1, h21.2, h0⟩ hS1 (by omega) (by omega) hR hR2 (fun z => absurd z (by omega)) (fun z => absurd z (by omega)) (fun z => absurd z (by omega)) (fun i2 z h93 => ?_) (fun _ _ _ z => her 1 j' (if_neg (fun y => z ⟨by omega, y⟩)))
        have ei : i2 = i := by omega
        subst ei
        have := hok (j' + 1) (s ++ [200000 + i2]) (if_pos h93)
        have e1 : E ++ (s ++ [200000 + i2]) ++ List.replicate kk 400001 = X ++ S ++ [200000 + i2] ++ List.replicate kk 400001 := by rw [hX]; simp only [List.append_assoc]
        rw [e1] at this
        exact this
      · obtain ⟨ch, hc1, -, hc3⟩ := mk0_c h0
        exact mBad k h0 hcm hb1 (her 1 j' (if_neg (fun y => by have := y.2; have := hc3.2; omega)))
  · refine her 1 j ((fel h hn).trans ?_)
    rcases hor with z | ⟨z1, z2, z3⟩
    · exact if_neg (fun y => z (hgo.mp y))
    · by_cases hg : go = true
      · exact (if_pos hg).trans ((if_neg z1).trans ((if_neg z2).trans (if_neg z3)))
      · exact if_neg hg
  · have hg := hgo.mpr ho4
    have hf := (fel h hn).trans ((if_pos hg).trans ((if_neg h45).trans ((if_neg h40).trans (if_pos hK))))
    exact her 1 (j + 1) (hf.trans (if_neg hx))
  · refine her 2 j ((fnm h hn).trans ?_)
    rw [hf]
  · refine her 1 (j + 1) ((fnm h hn).trans ?_)
    rw [hf]
    exact (if_pos ht).trans (if_neg (fun z => hno ⟨z.1, hgo.mp z.2⟩))
theorem expM1 {e : EC} {Q : Po} (k : MOk e) {o : Nat} {one : Nat → Res} (h : SpM e Q 4 one o) (gd : Gd e.m one) : SpE e Q (pExp e.b e.m one) o := by
  obtain ⟨g2, g1, g0⟩ := pExp_Gd (b := e.b) gd
  have h2 : SpM e Q 3 (pTerm e.b e.m one) o := lvlM k (Or.inr rfl) (fun j hj => mk2_c hj) h gd
  have h1 : SpM e Q 2 (pSum e.b e.m one) o := lvlM k (Or.inl rfl) (fun j hj => mk1_c hj) h2 g2
  exact expM k h1 gd
theorem mOne {e : EC} {Q : Po} (k : MOk e) (hfd : ∀ x i, e.fd x = some i → i < 16) : ∀ r, r ≤ 4 → ∀ (o kk j : Nat) (R E : List Nat), o + kk + r = 4 → e.c0 + E.length + kk + R.length ≤ j → j ≤ e.m → ¬ R.headD 0 = 400001 → R.headD 0 < 2 ^ 31 → (∀ j' s, pOne e.b e.m e.fd e.tb r j = .ok (j', s) → GG e Q 0 j' R (E ++ s ++ List.replicate kk 400001) o) → (∀ k jf, pOne e.b e.m e.fd e.tb r j = .error (k, jf) → FF e Q k jf) → GG e Q 1 j (List.replicate kk 400001 ++ R) E (o + kk)
  | 0, _ => fun o kk j R E h4 hb hjm hR hR2 hok her => oneM k (go := false) ⟨(fun z => by cases z), fun z => absurd z (by omega)⟩ (by omega) (fun z => by cases z) (fun j j' s h => by cases h) (fun z => by cases z) hb hjm hR hR2 hok her
  | r + 1, hr => fun o kk j R E h4 hb hjm hR hR2 hok her => by
    have ih := mOne (Q := Q) k hfd r (by omega)
    have g := pOne_Gd (tb := e.tb) k.1 k.2.1 hfd r
    have h1 : SpM e Q 4 (pOne e.b e.m e.fd e.tb r) (o + kk + 1) := by
      intro j B E hb hjm _ hT hB2 ok er
      refine ih (o + kk + 1) 0 j B E (by omega) (by omega) hjm hT hB2 (fun j' s hs => ?_) er
      rw [List.replicate_zero, List.append_nil]
      exact ok j' s (E ++ s) [] hs (List.append_nil _) (fun x hx => by cases hx)
    exact oneM k (go := true) ⟨fun _ => by omega, fun _ => rfl⟩ (by omega) (fun _ => expM1 k h1 g) (pExp_Gd g).2.2 (fun _ j R E b1 b2 b3 b4 ok er => ih o (kk + 1) j R E (by omega) b1 b2 b3 b4 ok er) hb hjm hR hR2 hok her
/-- the reference's E -/
theorem p_wantE {e : EC} {Q : Po} (k : MOk e) (hfd : ∀ x i, e.fd x = some i → i < 16) {j : Nat} {σ : Hp} (hT : MTk e.b (tk e.b e.m j) σ) (h14 : σ.1 98 14 = nI e.c0) (h10 : σ.1 98 10 = 0) (h11 : σ.1 98 11 = 0) (hs0 : e.s0 = σ) (hb : e.c0 ≤ j) (hjm : j ≤ e.m)
    (hok : ∀ j' s, pExp e.b e.m (pOne e.b e.m e.fd e.tb 4) j = .ok (j', s) → j < j' → j' ≤ e.m → e.c0 + s.length ≤ j' → (∀ τ : Hp, MR e none j' [] s 0 τ → Q none τ) ∧ (¬ isS e.b (tk e.b e.m j') 59 → FF e Q 1 j'))
    (her : ∀ k jf, pExp e.b e.m (pOne e.b e.m e.fd e.tb 4) j = .error (k, jf) → FF e Q k jf) : CTs 9 y_M_wantE [.ref 98] σ Q := by
  have g := pOne_Gd (tb := e.tb) k.1 k.2.1 hfd 4
  have h1 : SpM e Q 4 (pOne e.b e.m e.fd e.tb 4) 0 := by
    intro j B E hb hjm _ hT hB2 ok er
    refine mOne (Q := Q) k hfd 4 (Nat.le_refl _) 0 0 j B E (by omega) (by omega) hjm hT hB2 (fun j' s hs => ?_) er
    rw [List.replicate_zero, List.append_nil]
    exact ok j' s (E ++ s) [] hs (List.append_nil _) (fun x hx => by cases hx)
  have h2 := expM1 k h1 g
  refine e_M_wantE (t_M_wantE_0 (h2 j [] [] (by show e.c0 + 0 + 0 ≤ j; omega) hjm rfl (by decide) (by decide) (fun j' s X S hs hX hS1 h21 hcm hb1 hlt hm1 => ?_) her _ ?_))
  · have hl := app_len hX
    replace hb1 : e.c0 + X.length + S.length + 0 ≤ j' := hb1
    replace hl : X.length + S.length = 0 + s.length := hl
    obtain ⟨q1, q2⟩ := hok j' s hs hlt hm1 (by omega)
    by_cases h0 : mk0 e.b e.m j' = 0
    · refine sTop k (by omega) hm1 ⟨h21.1, h21.2, h0⟩ hS1 (fun τ h => q1 τ ?_)
      rw [hX] at h
      exact h
    · obtain ⟨ch, hc1, -, hc3⟩ := mk0_c h0
      exact mBad k h0 hcm hb1 (q2 (fun y => by have := y.2; have := hc3.2; omega))
  · obtain ⟨a1, a2, a3, a4, a5, a6⟩ := hT
    have gg : ∀ y, y ≠ 17 → y ≠ 18 → (sI (sI σ 98 17 0) 98 18 0).1 98 y = σ.1 98 y := fun y y1 y2 => by rw [sI_r, if_pos rfl, upd_r, if_neg y2, sI_r, if_pos rfl, upd_r, if_neg y1]
    have gc : ∀ c, c ≠ 98 → (sI (sI σ 98 17 0) 98 18 0).1 c = σ.1 c := fun c c1 => by rw [sI_r, if_neg c1, sI_r, if_neg c1]
    refine ⟨⟨(gg 5 (by decide) (by decide)).trans a1, (gg 6 (by decide) (by decide)).trans a2, (gg 7 (by decide) (by decide)).trans a3, a4, fun z => (gg 9 (by decide) (by decide)).trans (a5 z), fun z => (gg 9 (by decide) (by decide)).trans (a6 z)⟩, (gg 14 (by decide) (by decide)).trans h14, fun q hq => absurd hq (Nat.not_lt_zero _), fun q hq => by rw [gc 103 (by decide), hs0], ?_, trivial, ?_, ⟨(gg 10 (by decide) (by decide)).trans h10, (gg 11 (by decide) (by decide)).trans h11⟩, ?_⟩
    · rw [sI_r, if_pos rfl, upd_r, if_neg (by decide), sI_r, if_pos rfl, upd_r, if_pos rfl]; rfl
    · rw [sI_r, if_pos rfl, upd_r, if_pos rfl]; rfl
    · rw [hs0]
      exact ⟨fun c c1 c2 c3 => gc c c1, fun y y1 y2 y3 y4 y5 y6 y7 y8 y9 => gg y y8 y9, fun c c1 => rfl, fun x hx => rfl⟩
