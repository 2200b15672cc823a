/-! ===== the reference reads an E: a part begins ===== -/
def GG (e : EC) (Q : Po) (md : Int32) (j : Nat) (P E : List Nat) (o : Nat) : Prop := ∀ σ : Hp, MR e none j P E o σ → WP c_M_wantE (CTs 8) Q (14, [(0, .ref 98), (2, .int md)], []) σ
def FF (e : EC) (Q : Po) (k jf : Nat) : Prop := ∀ (σ : Hp) (j : Nat) (P E : List Nat) (o : Nat), MR e (some (k, (tk e.b e.m jf).2.1)) j P E o σ → Q none σ
theorem gF {e : EC} {Q : Po} {k jf j o : Nat} {P E : List Nat} {md : Int32} {σ : Hp} (ff : FF e Q k jf) (hk : 0 < k) (h3 : k < 4) (h : MR e (some (k, (tk e.b e.m jf).2.1)) j P E o σ) : WP c_M_wantE (CTs 8) Q (14, [(0, .ref 98), (2, .int md)], []) σ := t_M_wantE_14 (m_good0 h hk h3 (o0 (ff σ j P E o h)))
theorem g1 {e : EC} {Q : Po} {j o : Nat} {P E : List Nat} {σ : Hp} (h : MR e none j P E o σ) (q : CTs 8 y_M_part [.ref 98] σ (fun r σ3 => if oI r = 0 then WP c_M_wantE (CTs 8) Q (14, [(0, .ref 98), (2, .int 1)], []) σ3 else WP c_M_wantE (CTs 8) Q (14, [(0, .ref 98), (2, .int 0)], []) σ3)) : WP c_M_wantE (CTs 8) Q (14, [(0, .ref 98), (2, .int 1)], []) σ := t_M_wantE_14 (m_good1 h (o1 (ifn (by decide) (ifp rfl q))))
theorem g0 {e : EC} {Q : Po} {j o : Nat} {P E : List Nat} {σ : Hp} (h : MR e none j P E o σ) (q : CTs 8 y_M_goesOn [.ref 98] σ (fun r σ3 => WP c_M_wantE (CTs 8) Q (14, [(0, .ref 98), (2, .int (oI r))], []) σ3)) : WP c_M_wantE (CTs 8) Q (14, [(0, .ref 98), (2, .int 0)], []) σ := t_M_wantE_14 (m_good1 h (o1 (ifn (by decide) (ifn (by decide) q))))
theorem sPart {e : EC} {Q : Po} (k : MOk e) {j o kk : Nat} {R E : List Nat} (hb : e.c0 + E.length + kk + R.length ≤ j) (hjm : j ≤ e.m) (hR : ¬ R.headD 0 = 400001) (hR2 : R.headD 0 < 2 ^ 31) (ho : o + kk ≤ 4)
    (c1 : isNu e.b (tk e.b e.m j) 0 99999 → GG e Q 0 (j + 1) R (E ++ [dv e.b (tk e.b e.m j)] ++ List.replicate kk 400001) o)
    (cm : ¬ isNu e.b (tk e.b e.m j) 0 99999 → ¬ isNm e.b (tk e.b e.m j) → isS e.b (tk e.b e.m j) 45 → o + kk < 4 → GG e Q 1 (j + 1) (400001 :: (List.replicate kk 400001 ++ R)) E (o + kk + 1))
    (cb : ¬ isNu e.b (tk e.b e.m j) 0 99999 → ¬ isNm e.b (tk e.b e.m j) → ¬ isS e.b (tk e.b e.m j) 45 → isS e.b (tk e.b e.m j) 40 → o + kk < 4 → GG e Q 1 (j + 1) (400002 :: (List.replicate kk 400001 ++ R)) E (o + kk + 1))
    (cl : ¬ isNu e.b (tk e.b e.m j) 0 99999 → ¬ isNm e.b (tk e.b e.m j) → ¬ isS e.b (tk e.b e.m j) 45 → ¬ isS e.b (tk e.b e.m j) 40 → isK e.b (tk e.b e.m j) 6476969 → o + kk < 4 → isS e.b (tk e.b e.m (j + 1)) 40 → GG e Q 1 (j + 2) (400003 :: (List.replicate kk 400001 ++ R)) E (o + kk + 1))
    (cn : ¬ isNu e.b (tk e.b e.m j) 0 99999 → isNm e.b (tk e.b e.m j) → ∀ i, i < 16 → e.fd (wv e.b (tk e.b e.m j)) = some i → ¬ e.tb i = true → GG e Q 0 (j + 1) R (E ++ [100000 + i] ++ List.replicate kk 400001) o)
    (ct : ¬ isNu e.b (tk e.b e.m j) 0 99999 → isNm e.b (tk e.b e.m j) → ∀ i, i < 16 → e.fd (wv e.b (tk e.b e.m j)) = some i → e.tb i = true → isS e.b (tk e.b e.m (j + 1)) 91 → o + kk < 4 → GG e Q 1 (j + 2) ((500000 + i) :: (List.replicate kk 400001 ++ R)) E (o + kk + 1))
    (f1 : ¬ isNu e.b (tk e.b e.m j) 0 99999 → ¬ isNm e.b (tk e.b e.m j) → (¬ o + kk < 4 ∨ (¬ isS e.b (tk e.b e.m j) 45 ∧ ¬ isS e.b (tk e.b e.m j) 40 ∧ ¬ isK e.b (tk e.b e.m j) 6476969)) → FF e Q 1 j)
    (f2 : ¬ isNu e.b (tk e.b e.m j) 0 99999 → ¬ isNm e.b (tk e.b e.m j) → ¬ isS e.b (tk e.b e.m j) 45 → ¬ isS e.b (tk e.b e.m j) 40 → isK e.b (tk e.b e.m j) 6476969 → o + kk < 4 → ¬ isS e.b (tk e.b e.m (j + 1)) 40 → FF e Q 1 (j + 1))
    (f3 : ¬ isNu e.b (tk e.b e.m j) 0 99999 → isNm e.b (tk e.b e.m j) → e.fd (wv e.b (tk e.b e.m j)) = none → FF e Q 2 j)
    (f4 : ¬ isNu e.b (tk e.b e.m j) 0 99999 → isNm e.b (tk e.b e.m j) → ∀ i, i < 16 → e.fd (wv e.b (tk e.b e.m j)) = some i → e.tb i = true → ¬ (isS e.b (tk e.b e.m (j + 1)) 91 ∧ o + kk < 4) → FF e Q 1 (j + 1)) :
    GG e Q 1 j (List.replicate kk 400001 ++ R) E (o + kk) := by
  intro σ h
  have hm := k.1
  have fr := h.2.2.2.2.2.2.2.2
  have tp := k.tp fr
  have hg : σ.1 98 10 = 0 := h.2.2.2.2.2.2.2.1.1
  have hPl : (List.replicate kk 400001 ++ R).length = kk + R.length := by rw [List.length_append, List.length_replicate]
  refine g1 h (e_M_part (t_M_part_0 ?_))
  rw [h.1.1]
  have b3 := (k.TB j).1
  by_cases e2 : (tk e.b e.m j).1 = 2
  · have hj : j < e.m := tkm (by rw [e2]; decide)
    refine ifp (by rw [e2]; rfl) (rNum (lo := 0) (hi := 99999) (k.TB j) tp h.1 hg (by decide) (by decide) (fun hn τ f ct => ?_) (fun hn => ?_))
    · refine m_emit (x := dv e.b (tk e.b e.m j)) (h.T f ct) (by omega) (fun τ2 h3 => p_mended hR hR2 h3 ?_ (fun τ3 h4 => ⟨vb1, o1 (c1 hn τ3 h4)⟩))
      rw [List.length_append]
      show e.c0 + (E.length + 1) + kk + R.length ≤ 300
      omega
    · refine m_emit (x := 0) h.flt (by omega) (fun τ2 h3 => p_mended hR hR2 h3 ?_ (fun τ3 h4 => ⟨vb1, o1 (gF (f1 hn (fun z => ?_) (Or.inr ⟨fun z => ?_, fun z => ?_, fun z => ?_⟩)) (by decide) (by decide) h4)⟩))
      · rw [List.length_append]
        show e.c0 + (E.length + 1) + kk + R.length ≤ 300
        omega
      · have := z.1; omega
      · have := z.1; omega
      · have := z.1; omega
      · have := z.1; omega
  · have hNu : ¬ isNu e.b (tk e.b e.m j) 0 99999 := fun z => e2 z.1
    refine ifn (fun z => e2 ((nI_eq (b := 2) (by omega) (by omega)).mp z)) ?_
    refine q_mk (c := 45) (k.TB j) h.1 (by decide) (fun h45 => o1 ?_) (fun h45 => o0 ?_)
    · have hj := isS_m h45
      have hNm : ¬ isNm e.b (tk e.b e.m j) := fun z => by have := z.1; have := h45.1; omega
      refine q_mk (c := 45) (k.TB j) h.1 (by decide) (fun _ => o1 ?_) (fun z => absurd h45 z)
      exact p_mopen (x := 400001) h (by omega) ho (fun ho4 τ h2 => m_av k h2 (fun τ2 h3 => ⟨vb0, o0 (cm hNu hNm h45 ho4 τ2 h3)⟩)) (fun ho4 τ h2 => m_av k h2 (fun τ2 h3 => ⟨vb0, o0 (gF (f1 hNu hNm (Or.inl (by omega))) (by decide) (by decide) h3)⟩))
    · refine q_mk (c := 40) (k.TB j) h.1 (by decide) (fun h40 => o1 ?_) (fun h40 => o0 ?_)
      · have hj := isS_m h40
        have hNm : ¬ isNm e.b (tk e.b e.m j) := fun z => by have := z.1; have := h40.1; omega
        refine q_mk (c := 45) (k.TB j) h.1 (by decide) (fun z => absurd z h45) (fun _ => o0 ?_)
        exact p_mopen (x := 400002) h (by omega) ho (fun ho4 τ h2 => m_av k h2 (fun τ2 h3 => ⟨vb0, o0 (cb hNu hNm h45 h40 ho4 τ2 h3)⟩)) (fun ho4 τ h2 => m_av k h2 (fun τ2 h3 => ⟨vb0, o0 (gF (f1 hNu hNm (Or.inl (by omega))) (by decide) (by decide) h3)⟩))
      · refine q_wd (c := 6476969) (k.TB j) h.1 (by decide) (fun hK => o1 ?_) (fun hK => o0 ?_)
        · have hj : j < e.m := tkm (by rw [hK.1]; decide)
          have hNm : ¬ isNm e.b (tk e.b e.m j) := fun z => z.2.2 (by rw [hK.2.2]; decide)
          refine p_mopen (x := 400003) h (by omega) ho (fun ho4 τ h2 => ?_) (fun ho4 τ h2 => ?_)
          · refine m_good1 h2 (o1 (m_av k h2 (fun τ2 h3 => ?_)))
            refine rMark (c := 40) (k.TB (j + 1)) (k.tp h3.2.2.2.2.2.2.2.2) h3.1 h3.2.2.2.2.2.2.2.1.1 (by decide) (fun hx τ3 f ct => ⟨vb0, o0 (cl hNu hNm h45 h40 hK ho4 hx τ3 (h3.T f ct))⟩) (fun hx => ⟨vb0, o0 (gF (f2 hNu hNm h45 h40 hK ho4 hx) (by decide) (by decide) h3.flt)⟩)
          · exact m_good0 h2 (by decide) (by decide) (o0 ⟨vb0, o0 (gF (f1 hNu hNm (Or.inl (by omega))) (by decide) (by decide) h2)⟩)
        · refine q_mNm (k.TB j) h.1 (fun hNm => o1 ?_) (fun hNm => o0 ?_)
          · have hj : j < e.m := tkm (by rw [hNm.1]; decide)
            have hn0 := k.2.2.1
            have hwv : wv e.b (tk e.b e.m j) < 2 ^ 31 := by
              have := ((k.TB j).2.2.2.1 hNm.1).1
              have h27 : (27 : Nat) ^ 6 < 2 ^ 31 := by decide
              omega
            have h102 : σ.1 102 = e.s0.1 102 := fr.1 102 (by decide) (by decide) (by decide)
            have hw : σ.2 98 8 = lN (wv e.b (tk e.b e.m j)) := by
              rw [h.1.2.2.2.1 hNm.1, if_pos (by have := hNm.2.1; omega)]
            refine p_mknown (e.fd (wv e.b (tk e.b e.m j))) ((fr.2.1 12 (by decide) (by decide) (by decide) (by decide) (by decide) (by decide) (by decide) (by decide) (by decide)).trans k.2.2.2.2.1) (by omega) hw (fun i => by rw [h102]; exact k.2.2.2.2.2.1 _ hwv i) (fun hf => ?_) (fun i hi hf => ?_) hwv
            · exact ifn (by decide) (m_faults (f := 2) h (fun τ h2 => ⟨vb0, o0 (gF (f3 hNu hNm hf) (by decide) (by decide) h2)⟩))
            · refine ifp (nI_pos' (n := i) (by omega)) (m_av k h (fun τ h2 => ?_))
              have htb := k.2.2.2.2.2.2 i hi
              have h102' : τ.1 102 = e.s0.1 102 := h2.2.2.2.2.2.2.2.2.1 102 (by decide) (by decide) (by decide)
              obtain ⟨v1, v2⟩ := ix_20 (j := i) (by omega)
              refine ⟨v1, ?_⟩
              show if τ.1 102 ((20 : Int32) * nI i).toNatClampNeg = 4 then _ else _
              rw [v2, h102']
              by_cases ht : e.tb i = true
              · refine ifp (htb.mpr ht) (q_mk (c := 91) (k.TB (j + 1)) h2.1 (by decide) (fun h91 => o1 ?_) (fun h91 => o0 ?_))
                · show CTs 7 y_M_opens [.ref 98, .int ((500000 : Int32) + nI i)] τ _
                  rw [show (500000 : Int32) + nI i = nI (500000 + i) from nI_add 500000 i]
                  exact p_mopen (x := 500000 + i) h2 (by omega) ho (fun ho4 τ2 h3 => m_av k h3 (fun τ3 h4 => ⟨vb0, o0 (ct hNu hNm i (by omega) hf ht h91 ho4 τ3 h4)⟩)) (fun ho4 τ2 h3 => m_av k h3 (fun τ3 h4 => ⟨vb0, o0 (gF (f4 hNu hNm i (by omega) hf ht (fun z => by have := z.2; omega)) (by decide) (by decide) h4)⟩))
                · exact m_faults (f := 1) h2 (fun τ2 h3 => ⟨vb0, o0 (gF (f4 hNu hNm i (by omega) hf ht (fun z => h91 z.1)) (by decide) (by decide) h3)⟩)
              · refine ifn (fun z => ht (htb.mp z)) ?_
                show CTs 7 y_M_emit [.ref 98, .int ((100000 : Int32) + nI i)] τ _
                rw [show (100000 : Int32) + nI i = nI (100000 + i) from nI_add 100000 i]
                refine m_emit (x := 100000 + i) h2 (by omega) (fun τ2 h3 => p_mended hR hR2 h3 ?_ (fun τ3 h4 => ⟨vb1, o1 (cn hNu hNm i (by omega) hf ht τ3 h4)⟩))
                rw [List.length_append]
                show e.c0 + (E.length + 1) + kk + R.length ≤ 300
                omega
          · exact m_faults (f := 1) h (fun τ h2 => ⟨vb0, o0 (gF (f1 hNu hNm (Or.inr ⟨h45, h40, hK⟩)) (by decide) (by decide) h2)⟩)
