/-! ===== the reference reads things: corners ===== -/
def CorF (d : Nat) (Q : Po) (v1 v2 r1 r3 : Int32) (σ3 : Hp) : Prop := ¬ (6 : Int32) = 0 ∧ (vp_in ((v1 + (8 : Int32)) + ((2 : Int32) * (v2 - v2 / (6 : Int32) * (6 : Int32)))) 320 ∧ (¬ (6 : Int32) = 0 ∧ (vp_in (((v1 + (8 : Int32)) + ((2 : Int32) * (v2 - v2 / (6 : Int32) * (6 : Int32)))) + (1 : Int32)) 320 ∧ (CTs d y_M_isGood [.ref 98] (sI (sI σ3 102 ((v1 + (8 : Int32)) + ((2 : Int32) * (v2 - v2 / (6 : Int32) * (6 : Int32)))).toNatClampNeg r1) 102 (((v1 + (8 : Int32)) + ((2 : Int32) * (v2 - v2 / (6 : Int32) * (6 : Int32)))) + (1 : Int32)).toNatClampNeg r3) (fun r4 σ4 => (if (oI r4) = 0 then (CTs d y_M_isGood [.ref 98] σ4 (fun r5 σ5 => (if (oI r5) = 0 then (CTs d y_M_isGood [.ref 98] σ5 (fun r6 σ6 => (if (oI r6) = 0 then (WP c_M_wantCorners (CTs d) Q (4, [(0, .ref 98), (1, .int v1), (2, .int (v2 + (1 : Int32))), (3, .int r1)], []) σ6) else (CTs d y_M_advance [.ref 98] σ6 (fun _ σ7 => WP c_M_wantCorners (CTs d) Q (4, [(0, .ref 98), (1, .int v1), (2, .int (v2 + (1 : Int32))), (3, .int r1)], []) σ7))))) else ((if (v2 + (1 : Int32)) = (6 : Int32) then (CTs d y_M_faults [.ref 98, .int (1 : Int32)] σ5 (fun _ σ10 => CTs d y_M_isGood [.ref 98] σ10 (fun r11 σ11 => (if (oI r11) = 0 then (WP c_M_wantCorners (CTs d) Q (4, [(0, .ref 98), (1, .int v1), (2, .int (v2 + (1 : Int32))), (3, .int r1)], []) σ11) else (CTs d y_M_advance [.ref 98] σ11 (fun _ σ12 => WP c_M_wantCorners (CTs d) Q (4, [(0, .ref 98), (1, .int v1), (2, .int (v2 + (1 : Int32))), (3, .int r1)], []) σ12)))))) else (CTs d y_M_isGood [.ref 98] σ5 (fun r8 σ8 => (if (oI r8) = 0 then (WP c_M_wantCorners (CTs d) Q (4, [(0, .ref 98), (1, .int v1), (2, .int (v2 + (1 : Int32))), (3, .int r1)], []) σ8) else (CTs d y_M_advance [.ref 98] σ8 (fun _ σ9 => WP c_M_wantCorners (CTs d) Q (4, [(0, .ref 98), (1, .int v1), (2, .int (v2 + (1 : Int32))), (3, .int r1)], []) σ9)))))))))) else (CTs d y_M_isMark [.ref 98, .int (44 : Int32)] σ4 (fun r13 σ13 => (if (oI r13) = 0 then ((if (2 : Int32) ≤ (v2 + (1 : Int32)) then (vp_in (v1 + (3 : Int32)) 320 ∧ (Q none (sI σ13 102 (v1 + (3 : Int32)).toNatClampNeg (v2 + (1 : Int32))))) else (CTs d y_M_faults [.ref 98, .int (1 : Int32)] σ13 (fun _ σ22 => vp_in (v1 + (3 : Int32)) 320 ∧ (Q none (sI σ22 102 (v1 + (3 : Int32)).toNatClampNeg (v2 + (1 : Int32)))))))) else (CTs d y_M_isGood [.ref 98] σ13 (fun r14 σ14 => (if (oI r14) = 0 then (CTs d y_M_isGood [.ref 98] σ14 (fun r15 σ15 => (if (oI r15) = 0 then (WP c_M_wantCorners (CTs d) Q (4, [(0, .ref 98), (1, .int v1), (2, .int (v2 + (1 : Int32))), (3, .int r1)], []) σ15) else (CTs d y_M_advance [.ref 98] σ15 (fun _ σ16 => WP c_M_wantCorners (CTs d) Q (4, [(0, .ref 98), (1, .int v1), (2, .int (v2 + (1 : Int32))), (3, .int r1)], []) σ16))))) else ((if (v2 + (1 : Int32)) = (6 : Int32) then (CTs d y_M_faults [.ref 98, .int (1 : Int32)] σ14 (fun _ σ19 => CTs d y_M_isGood [.ref 98] σ19 (fun r20 σ20 => (if (oI r20) = 0 then (WP c_M_wantCorners (CTs d) Q (4, [(0, .ref 98), (1, .int v1), (2, .int (v2 + (1 : Int32))), (3, .int r1)], []) σ20) else (CTs d y_M_advance [.ref 98] σ20 (fun _ σ21 => WP c_M_wantCorners (CTs d) Q (4, [(0, .ref 98), (1, .int v1), (2, .int (v2 + (1 : Int32))), (3, .int r1)], []) σ21)))))) else (CTs d y_M_isGood [.ref 98] σ14 (fun r17 σ17 => (if (oI r17) = 0 then (WP c_M_wantCorners (CTs d) Q (4, [(0, .ref 98), (1, .int v1), (2, .int (v2 + (1 : Int32))), (3, .int r1)], []) σ17) else (CTs d y_M_advance [.ref 98] σ17 (fun _ σ18 => WP c_M_wantCorners (CTs d) Q (4, [(0, .ref 98), (1, .int v1), (2, .int (v2 + (1 : Int32))), (3, .int r1)], []) σ18)))))))))))))))))))
theorem ix8 {n k : Nat} (hk : k < 6) : (nI (20 * n) + (8 : Int32)) + ((2 : Int32) * (nI k - nI k / (6 : Int32) * (6 : Int32))) = nI (20 * n + (8 + 2 * k)) ∧ (nI (20 * n) + (8 : Int32)) + ((2 : Int32) * (nI k - nI k / (6 : Int32) * (6 : Int32))) + 1 = nI (20 * n + (9 + 2 * k)) := by
  have e : nI k - nI k / (6 : Int32) * (6 : Int32) = nI k := by
    have := pk_rem (a := k) (d := 6) (by omega) (by omega) (by omega)
    rw [Nat.mod_eq_of_lt hk] at this
    exact this
  have e1 : (nI (20 * n) + (8 : Int32)) + ((2 : Int32) * nI k) = nI (20 * n + (8 + 2 * k)) := by
    rw [show nI (20 * n) + (8 : Int32) = nI (20 * n + 8) from nI_add _ 8, show (2 : Int32) * nI k = nI (2 * k) from pk_mul 2 k, nI_add, Nat.add_assoc]
  rw [e, e1]
  refine ⟨rfl, ?_⟩
  rw [nI_1]
  congr 1
  omega
theorem f4 {Q : Po} {σ00 σ : Hp} {k p : Nat} {v1 v2 v3 : Int32} (h : MFt σ00 k p σ) (q : ∀ τ : Hp, MFt σ00 k p τ → Q none τ) : WP c_M_wantCorners (CTs 9) Q (4, [(0, .ref 98), (1, .int v1), (2, .int v2), (3, .int v3)], []) σ := t_M_wantCorners_4 (rGood0 h.n (o0 (q _ h)))
theorem fCorF {Q : Po} {σ00 σ : Hp} {k p n c : Nat} {r1 r3 : Int32} (hn : n < 16) (hc : c < 6) (h : MFt σ00 k p σ) (q : ∀ τ : Hp, MFt σ00 k p τ → Q none τ) : CorF 9 Q (nI (20 * n)) (nI c) r1 r3 σ := by
  unfold CorF
  obtain ⟨e1, e2⟩ := ix8 (n := n) hc
  rw [e1] at e2 ⊢
  rw [e2]
  exact ⟨by decide, vp_in_nI (by omega) (by omega), by decide, vp_in_nI (by omega) (by omega), rGood0 h.w.w.n (o0 (rGood0 h.w.w.n (o0 (rGood0 h.w.w.n (o0 (f4 h.w.w q))))))⟩
theorem f41 {Q : Po} {σ00 σ : Hp} {k p n c : Nat} (hn : n < 16) (hc : c < 6) (h : MFt σ00 k p σ) (q : ∀ τ : Hp, MFt σ00 k p τ → Q none τ) : WP c_M_wantCorners (CTs 9) Q (41, [(0, .ref 98), (1, .int (nI (20 * n))), (2, .int (nI c))], []) σ :=
  t_M_wantCorners_41 (rNum0 h.n (rMark0 h.n (rNum0 h.n (fCorF hn hc h q))))
def CR (cs : List (Nat × Nat)) (R : Nat → Int32) : Prop := ∀ k, k < cs.length → R (8 + 2 * k) = nI (cs.getD k (0, 0)).1 ∧ R (9 + 2 * k) = nI (cs.getD k (0, 0)).2
theorem laC_app {cs : List (Nat × Nat)} {x : Nat × Nat} : laC (cs ++ [x]) = x.1 := by
  unfold laC
  have hl : (cs ++ [x]).length = cs.length + 1 := List.length_append
  rw [hl, getD_appP (by omega), if_pos (by omega)]
theorem p_mCors {Q : Po} {b : Nat → Nat} {m : Nat} {σ00 : Hp} {ρ : Rho} {n c : Nat} {s : List Nat} (tb : ∀ j, TB b (tk b m j)) (hn : n < 16) (hc6 : ∀ i, i < n → (ρ i).kd = 4 → (ρ i).cs.length ≤ 6) : ∀ (f j : Nat) (cs : List (Nat × Nat)) (R : Nat → Int32) (σ : Hp) (v3 : Int32), cs.length + f = 6 → (f = 0 → False) → corV cs → CR cs R → MN b m σ00 ρ n c j s R σ → (cs.length = 0 → v3 = -1) → (0 < cs.length → v3 = nI (laC cs)) →
    (∀ j' cs', pCors b m f cs j = .ok (j', cs') → ∀ (R' : Nat → Int32) (τ : Hp), (∀ w, w < 8 → w ≠ 3 → R' w = R w) → R' 3 = nI cs'.length → CR cs' R' → MN b m σ00 ρ n c j' s R' τ → Q none τ) →
    (∀ k jf, pCors b m f cs j = .error (k, jf) → ∀ τ : Hp, MFt σ00 k (tk b m jf).2.1 τ → Q none τ) → WP c_M_wantCorners (CTs 9) Q (4, [(0, .ref 98), (1, .int (nI (20 * n))), (2, .int (nI cs.length)), (3, .int v3)], []) σ := by
  intro f
  induction f with
  | zero => intro j cs R σ v3 _ z; exact absurd rfl z
  | succ f ih =>
    intro j cs R σ v3 hl _ hv hR h hv0 hv1 q1 q0
    obtain ⟨g, l, r⟩ := id h
    have hg := g.2.2.1
    have mt := g.2.2.2.2
    have b3 := (tb j).1
    have hla := laC_lt hv
    have hcl : cs.length < 6 := by omega
    unfold pCors at q1 q0
    have q41 : ¬ (isNu b (tk b m j) 0 99999 ∧ 0 < cs.length ∧ dv b (tk b m j) ≤ laC cs) → WP c_M_wantCorners (CTs 9) Q (41, [(0, .ref 98), (1, .int (nI (20 * n))), (2, .int (nI cs.length))], []) σ := fun hno => by
      refine t_M_wantCorners_41 (rNum (lo := 0) (hi := 99999) (tb j) g.2.1 mt hg (by decide) (by decide) (fun hN τ f1 k1 => ?_) (fun hN => ?_))
      · have h1 := h.T f1 k1
        have hno2 : ¬ (0 < cs.length ∧ dv b (tk b m j) ≤ laC cs) := fun z => hno ⟨hN, z⟩
        refine rMark (c := 58) (tb _) h1.1.2.1 h1.1.2.2.2.2 h1.1.2.2.1 (by decide) (fun h58 τ2 f2 k2 => ?_) (fun h58 => ?_)
        · have h2 := h1.T f2 k2
          refine rNum (lo := 0) (hi := 99999) (tb _) h2.1.2.1 h2.1.2.2.2.2 h2.1.2.2.1 (by decide) (by decide) (fun hN2 τ3 f3 k3 => ?_) (fun hN2 => ?_)
          · have h3 := h2.T f3 k3
            have hx : pCor b m cs.length (laC cs) j = .ok (dv b (tk b m j), dv b (tk b m (j + 2))) := by
              unfold pCor
              rw [if_pos hN, if_neg hno2, if_pos h58]
              exact if_pos hN2
            rw [hx] at q1 q0
            have v2 : corV (cs ++ [(dv b (tk b m j), dv b (tk b m (j + 2)))]) := corV_app hv hN.2.2.2 hN2.2.2.2 hno2
            have hl2 : (cs ++ [(dv b (tk b m j), dv b (tk b m (j + 2)))]).length = cs.length + 1 := List.length_append
            replace q1 : ∀ j' cs', (if isS b (tk b m (j + 3)) 44 then (if cs.length = 5 then .error (1, j + 3) else pCors b m f (cs ++ [(dv b (tk b m j), dv b (tk b m (j + 2)))]) (j + 4)) else if 0 < cs.length then .ok (j + 3, cs ++ [(dv b (tk b m j), dv b (tk b m (j + 2)))]) else .error (1, j + 3)) = Except.ok (j', cs') → ∀ (R' : Nat → Int32) (τ : Hp), (∀ w, w < 8 → w ≠ 3 → R' w = R w) → R' 3 = nI cs'.length → CR cs' R' → MN b m σ00 ρ n c j' s R' τ → Q none τ := q1
            replace q0 : ∀ k jf, (if isS b (tk b m (j + 3)) 44 then (if cs.length = 5 then .error (1, j + 3) else pCors b m f (cs ++ [(dv b (tk b m j), dv b (tk b m (j + 2)))]) (j + 4)) else if 0 < cs.length then (.ok (j + 3, cs ++ [(dv b (tk b m j), dv b (tk b m (j + 2)))]) : Except (Nat × Nat) (Nat × List (Nat × Nat))) else .error (1, j + 3)) = Except.error (k, jf) → ∀ τ : Hp, MFt σ00 k (tk b m jf).2.1 τ → Q none τ := q0
            show CorF 9 Q (nI (20 * n)) (nI cs.length) (nI (dv b (tk b m j))) (nI (dv b (tk b m (j + 2)))) τ3
            unfold CorF
            obtain ⟨e1, e2⟩ := ix8 (n := n) hcl
            rw [e1] at e2 ⊢
            rw [e2, nI_clamp (n := 20 * n + (8 + 2 * cs.length)) (by omega), nI_clamp (n := 20 * n + (9 + 2 * cs.length)) (by omega), nI_1]
            have h4 := (h3.w hc6 (w := 8 + 2 * cs.length) (v := nI (dv b (tk b m j))) (by omega)).w hc6 (w := 9 + 2 * cs.length) (v := nI (dv b (tk b m (j + 2)))) (by omega)
            have hR4 : CR (cs ++ [(dv b (tk b m j), dv b (tk b m (j + 2)))]) (upd (upd R (8 + 2 * cs.length) (nI (dv b (tk b m j)))) (9 + 2 * cs.length) (nI (dv b (tk b m (j + 2))))) := fun k hk => by
              rw [hl2] at hk
              rw [getD_appP hk]
              by_cases ek : k = cs.length
              · rw [if_pos ek, ek, upd_r, if_neg (by omega), upd_r, if_pos rfl, upd_r, if_pos rfl]
                exact ⟨rfl, rfl⟩
              · rw [if_neg ek, upd_r, if_neg (by omega), upd_r, if_neg (by omega), upd_r, if_neg (by omega), upd_r, if_neg (by omega)]
                exact hR k (by omega)
            have hlow : ∀ w, w < 8 → upd (upd R (8 + 2 * cs.length) (nI (dv b (tk b m j)))) (9 + 2 * cs.length) (nI (dv b (tk b m (j + 2)))) w = R w := fun w hw => by rw [upd_r, if_neg (by omega), upd_r, if_neg (by omega)]
            refine ⟨by decide, vp_in_nI (by omega) (by omega), by decide, vp_in_nI (by omega) (by omega), rGood1 h4.1.2.2.1 (o1 (q_mk (c := 44) (tb _) h4.1.2.2.2.2 (by decide) (fun h44 => o1 ?_) (fun h44 => o0 ?_)))⟩
            · rw [if_pos h44] at q1 q0
              refine rGood1 h4.1.2.2.1 (o1 ?_)
              by_cases e5 : cs.length = 5
              · rw [if_pos e5] at q0
                refine ifp (by rw [e5]; rfl) (rFaults (k := 1) h4.1.2.2.1 h4.1.2.2.2.2 ?_)
                have hF := h4.1.f (k := 1) (by decide) (by decide)
                exact rGood0 hF.n (o0 (f4 hF (q0 1 (j + 3) rfl)))
              · rw [if_neg e5] at q1 q0
                refine ifn (fun z => e5 ?_) (rGood1 h4.1.2.2.1 (o1 (p_av h4.1.2.1 h4.1.2.2.2.2 (fun τ4 f4 k4 => ?_))))
                · have := (nI_eq (a := cs.length + 1) (b := 6) (by omega) (by omega)).mp z
                  omega
                · have h5 := h4.T f4 k4
                  rw [← hl2]
                  refine ih (j + 4) (cs ++ [(dv b (tk b m j), dv b (tk b m (j + 2)))]) _ τ4 _ (by omega) (fun z => by omega) v2 hR4 h5 (fun z => by omega) (fun _ => by rw [laC_app]) (fun j' cs' hp R' τ5 hw h3' hcr h6 => q1 j' cs' hp R' τ5 (fun w w1 w2 => (hw w w1 w2).trans (hlow w w1)) h3' hcr h6) q0
            · rw [if_neg h44] at q1 q0
              obtain ⟨v3a, v3b⟩ := ix20 (n := n) (w := 3) hn (by decide)
              replace v3a : vp_in (nI (20 * n) + 3) 320 := v3a
              replace v3b : (nI (20 * n) + 3).toNatClampNeg = 20 * n + 3 := v3b
              by_cases e0 : 0 < cs.length
              · rw [if_pos e0] at q1
                refine ifp (nI_le (a := 2) (by omega) (by omega)) ⟨v3a, ?_⟩
                rw [v3b]
                have h5 := h4.w hc6 (w := 3) (v := nI (cs.length + 1)) (by decide)
                refine q1 (j + 3) _ rfl _ _ (fun w w1 w2 => by rw [upd_r, if_neg w2]; exact hlow w w1) ?_ (fun k hk => ?_) h5
                · rw [upd_r, if_pos rfl, hl2]
                · refine ⟨?_, ?_⟩
                  · rw [upd_r, if_neg (by omega)]; exact (hR4 k hk).1
                  · rw [upd_r, if_neg (by omega)]; exact (hR4 k hk).2
              · rw [if_neg e0] at q0
                refine ifn (nI_ge (a := cs.length + 1) (b := 2) (by omega) (by omega)) (rFaults (k := 1) h4.1.2.2.1 h4.1.2.2.2.2 ⟨v3a, ?_⟩)
                exact q0 1 (j + 3) rfl _ (h4.1.f (by decide) (by decide)).w
          · have hx : pCor b m cs.length (laC cs) j = .error (1, j + 2) := by
              unfold pCor
              rw [if_pos hN, if_neg hno2, if_pos h58]
              exact if_neg hN2
            exact fCorF hn hcl (h2.1.f (by decide) (by decide)) (q0 1 (j + 2) (by rw [hx]))
        · have hx : pCor b m cs.length (laC cs) j = .error (1, j + 1) := by
            unfold pCor
            rw [if_pos hN, if_neg hno2, if_neg h58]
          have hF := h1.1.f (k := 1) (by decide) (by decide)
          exact rNum0 hF.n (fCorF hn hcl hF (q0 1 (j + 1) (by rw [hx])))
      · have hx : pCor b m cs.length (laC cs) j = .error (1, j) := if_neg hN
        have hF := g.f (k := 1) (by decide) (by decide)
        exact rMark0 hF.n (rNum0 hF.n (fCorF hn hcl hF (q0 1 j (by rw [hx]))))
    refine t_M_wantCorners_4 (rGood1 hg (o1 ?_))
    rw [mt.1]
    by_cases e2 : (tk b m j).1 = 2
    · refine ifp (by rw [e2]; rfl) ?_
      have hval := mt.2.2.2.2.1 e2
      have hd := (tb j).2.2.2.2.1 e2
      by_cases e5 : (tk b m j).2.2 - (tk b m j).2.1 ≤ 5
      · rw [if_pos e5] at hval
        rw [hval]
        refine ifn (nI_pos (n := dv b (tk b m j)) (by omega)) ?_
        by_cases e0 : cs.length = 0
        · refine ifp ?_ (q41 (fun z => by omega))
          rw [hv0 e0, Int32.lt_iff_toInt_lt, nI_toInt (by omega), show (-1 : Int32).toInt = -1 from by decide]
          omega
        · rw [hv1 (by omega)]
          by_cases ela : laC cs < dv b (tk b m j)
          · exact ifp (nI_lt ela (by omega)) (q41 (fun z => by omega))
          · refine ifn (nI_nlt (by omega) hla) (rFaults (k := 3) hg mt ?_)
            have hx : pCor b m cs.length (laC cs) j = .error (3, j) := by
              unfold pCor
              rw [if_pos ⟨e2, e5, by omega, hd⟩]
              exact if_pos ⟨by omega, by omega⟩
            exact f41 hn hcl (g.f (by decide) (by decide)) (q0 3 j (by rw [hx]))
      · rw [if_neg e5] at hval
        rw [hval]
        exact ifp (by decide) (q41 (fun z => e5 z.1.2.1))
    · exact ifn (fun z => e2 ((nI_eq (b := 2) (by omega) (by omega)).mp z)) (q41 (fun z => e2 z.1.1))
