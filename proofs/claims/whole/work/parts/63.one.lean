/-! ===== the class reads an E: one ===== -/
theorem oneC {e : EC} (o : EOk e) {D op : Nat} {go : Bool} {E self : Nat → Res} (hgo : go = true ↔ op < 4) (hop : op ≤ 4) (hE : go = true → SpC e (D + 3) E y_Sc_joins [.ref 1, .int 0, .int (nI (op + 1))]) (gE : Gd e.m E) (hS : go = true → SpC e (D + 3) self y_Sc_one [.ref 1, .int (nI (op + 1))]) (gS : Gd e.m self) : SpC e (D + 5) (oneF e.b e.m e.fd e.tb go E self) y_Sc_one [.ref 1, .int (nI op)] := by
  intro j s Mn σ K c hb hok her
  have hm := o.1
  have fr := c.2.2.2.2.2
  refine e_Sc_one (t_Sc_one_0 (q_isN (lo := 0) (hi := 99999) (o.TB j) c.1 (by decide) (by decide) (fun h => o1 ?_) (fun h => o0 ?_)))
  · have hj : j < e.m := tkm (by rw [h.1]; decide)
    have hR : oneF e.b e.m e.fd e.tb go E self j = .ok (j + 1, [dv e.b (tk e.b e.m j)]) := if_pos h
    rw [hR] at hok
    rw [(c.1.2.2.2.2.1 h.1).2]
    refine p_addE (x := dv e.b (tk e.b e.m j)) c (by omega) (cwP h.2.2.2) (fun τ c2 => o1 (p_nx (o.tp c2.2.2.2.2.2) c2.1 (fun τ2 f ct => o1 ⟨vb1, ?_⟩)))
    refine hok (j + 1) _ τ2 rfl ((c2.S f ct).mn (fun i hi => ⟨fun z => Or.inl z, fun z => z.resolve_right (men_no hi (Or.inl ?_))⟩))
    have := h.2.2.2
    omega
  · refine q_isNm (o.TB j) c.1 (fun hn => o1 ?_) (fun hn => o0 ?_)
    · have hR : oneF e.b e.m e.fd e.tb go E self j = nmR e go E j := by
        unfold oneF
        rw [if_neg h, if_pos hn]
        rfl
      rw [hR] at hok her
      exact nameC o hgo hop hE gE c hb hn (fun j' s' τ hs c2 => ⟨vb1, hok j' s' τ hs c2⟩) (fun k jf τ hs f => ⟨vb0, her k jf τ hs f⟩)
    · have hR : oneF e.b e.m e.fd e.tb go E self j = (if go = true then (if isS e.b (tk e.b e.m j) 45 then mnF self j else if isS e.b (tk e.b e.m j) 40 then brF e.b e.m E j else if isK e.b (tk e.b e.m j) 6476969 then lsF e.b e.m E j else .error (1, j)) else .error (1, j)) := by
        unfold oneF
        rw [if_neg h, if_neg hn]
      rw [hR] at hok her
      have k83 : (isS e.b (tk e.b e.m j) 45 ∨ isS e.b (tk e.b e.m j) 40 ∨ isK e.b (tk e.b e.m j) 6476969) → WP c_Sc_one (CTs (D + 4)) K (83, [(0, .ref 1), (1, .int (nI op))], [.int 1]) σ := fun hor => by
        refine t_Sc_one_83 (ifn (by decide) ?_)
        by_cases ho : op < 4
        · have hg := hgo.mpr ho
          have hj : j < e.m := by
            rcases hor with z | z | z
            · exact isS_m z
            · exact isS_m z
            · exact tkm (by rw [z.1]; decide)
          rw [if_pos hg] at hok her
          refine ifp (nI_lt (b := 4) ho (by omega)) ?_
          refine q_isS (c := 45) (o.TB j) c.1 (by decide) (fun h45 => o1 ?_) (fun h45 => o0 ?_)
          · rw [if_pos h45] at hok her
            unfold mnF at hok her
            refine p_nx (o.tp fr) c.1 (fun τ f ct => o1 ?_)
            rw [nI_1]
            refine cts_up (Nat.le_succ _) (hS hg (j + 1) s Mn τ _ (c.S f ct) (by omega) (fun j1 s1 τ2 hs c2 => o1 ?_) (fun k jf τ2 hs f2 => o0 ⟨vb0, ?_⟩))
            · obtain ⟨g1, g2, g3, g4⟩ := gS _ _ _ hs
              rw [hs] at hok
              have hl : (s ++ s1).length = s.length + s1.length := List.length_append
              refine p_addE (x := 400001) c2 (by omega) (by decide) (fun τ3 c3 => o1 ⟨vb1, ?_⟩)
              rw [List.append_assoc] at c3
              refine hok j1 (s1 ++ [400001]) τ3 rfl (c3.mn (fun i hi => ?_))
              rw [men_app]
              exact ⟨fun z => z.imp id Or.inl, fun z => z.imp id (fun y => y.resolve_right (men_no hi (Or.inr (by omega))))⟩
            · rw [hs] at her
              exact her k jf τ2 rfl f2
          · rw [if_neg h45] at hok her
            refine q_isS (c := 40) (o.TB j) c.1 (by decide) (fun h40 => o1 ?_) (fun h40 => o0 ?_)
            · rw [if_pos h40] at hok her
              unfold brF at hok her
              refine p_nx (o.tp fr) c.1 (fun τ f ct => o1 ?_)
              rw [nI_1]
              refine cts_up (Nat.le_succ _) (hE hg (j + 1) s Mn τ _ (c.S f ct) (by omega) (fun j1 s1 τ2 hs c2 => o1 ?_) (fun k jf τ2 hs f2 => o0 ⟨vb0, ?_⟩))
              · rw [hs] at hok her
                refine p_skE o (ch := 41) c2 (by decide) (fun h41 τ3 c3 => o1 ⟨vb1, hok (j1 + 1) s1 τ3 (if_pos h41) c3⟩) (fun h41 τ3 f3 => o0 ⟨vb0, her 1 j1 τ3 (if_neg h41) f3⟩)
              · rw [hs] at her
                exact her k jf τ2 rfl f2
            · have hk := (hor.resolve_left h45).resolve_left h40
              rw [if_neg h40, if_pos hk] at hok her
              unfold lsF at hok her
              refine p_nx (o.tp fr) c.1 (fun τ f ct => o1 ?_)
              have c1 := c.S f ct
              refine p_skE o (ch := 40) c1 (by decide) (fun hx τ1 c2 => o1 ?_) (fun hx τ1 f1 => o0 ⟨vb0, her 1 (j + 1) τ1 (if_neg hx) f1⟩)
              rw [if_pos hx] at hok her
              rw [nI_1]
              refine cts_up (Nat.le_succ _) (hE hg (j + 2) s Mn τ1 _ c2 (by omega) (fun j1 s1 τ2 hs c3 => o1 ?_) (fun k jf τ2 hs f2 => o0 ⟨vb0, ?_⟩))
              · obtain ⟨g1, g2, g3, g4⟩ := gE _ _ _ hs
                rw [hs] at hok her
                replace hok : ∀ j' s' τ, (if isS e.b (tk e.b e.m j1) 44 then (match E (j1 + 1) with
                    | .error e => (.error e : Res)
                    | .ok (j2, s2) => if isS e.b (tk e.b e.m j2) 41 then .ok (j2 + 1, s1 ++ s2 ++ [400000]) else .error (1, j2)) else .error (1, j1)) = .ok (j', s') → SE e j' (s ++ s') (fun i => Mn i ∨ men s' i) τ → K (some (.int 1)) τ := hok
                replace her : ∀ k jf τ, (if isS e.b (tk e.b e.m j1) 44 then (match E (j1 + 1) with
                    | .error e => (.error e : Res)
                    | .ok (j2, s2) => if isS e.b (tk e.b e.m j2) 41 then .ok (j2 + 1, s1 ++ s2 ++ [400000]) else .error (1, j2)) else .error (1, j1)) = .error (k, jf) → FtE e k jf τ → K (some (.int 0)) τ := her
                have hl : (s ++ s1).length = s.length + s1.length := List.length_append
                refine p_skE o (ch := 44) c3 (by decide) (fun h44 τ3 c4 => o1 ?_) (fun h44 τ3 f3 => o0 ⟨vb0, her 1 j1 τ3 (if_neg h44) f3⟩)
                rw [if_pos h44] at hok her
                refine cts_up (Nat.le_succ _) (hE hg (j1 + 1) (s ++ s1) _ τ3 _ c4 (by omega) (fun j2 s2 τ4 hs2 c5 => o1 ?_) (fun k jf τ4 hs2 f4 => o0 ⟨vb0, ?_⟩))
                · obtain ⟨k1, k2, k3, k4⟩ := gE _ _ _ hs2
                  rw [hs2] at hok her
                  have hl2 : (s ++ s1 ++ s2).length = (s ++ s1).length + s2.length := List.length_append
                  refine p_skE o (ch := 41) c5 (by decide) (fun h41 τ5 c6 => o1 ?_) (fun h41 τ5 f5 => o0 ⟨vb0, her 1 j2 τ5 (if_neg h41) f5⟩)
                  refine p_addE (x := 400000) c6 (by omega) (by decide) (fun τ6 c7 => o1 ⟨vb1, ?_⟩)
                  have e1 : s ++ s1 ++ s2 ++ [400000] = s ++ (s1 ++ s2 ++ [400000]) := by simp only [List.append_assoc]
                  rw [e1] at c7
                  refine hok (j2 + 1) (s1 ++ s2 ++ [400000]) τ6 (if_pos h41) (c7.mn (fun i hi => ?_))
                  rw [men_app, men_app]
                  have hno := men_no (x := 400000) hi (Or.inr (by omega))
                  constructor
                  · intro z
                    rcases z with (z | z) | z
                    · exact Or.inl z
                    · exact Or.inr (Or.inl (Or.inl z))
                    · exact Or.inr (Or.inl (Or.inr z))
                  · intro z
                    rcases z with z | ((z | z) | z)
                    · exact Or.inl (Or.inl z)
                    · exact Or.inl (Or.inr z)
                    · exact Or.inr z
                    · exact absurd z hno
                · rw [hs2] at her
                  exact her k jf τ4 rfl f4
              · rw [hs] at her
                exact her k jf τ2 rfl f2
        · rw [if_neg (fun z => ho (hgo.mp z))] at her
          exact ifn (nI_nlt (a := op) (b := 4) (by omega) (by omega)) (p_wrong (k := 1) c.1 ⟨vb0, her 1 j _ rfl (FtE.of fr 1 j)⟩)
      refine q_isS (c := 45) (o.TB j) c.1 (by decide) (fun h45 => o1 (k83 (Or.inl h45))) (fun h45 => o0 ?_)
      refine q_isS (c := 40) (o.TB j) c.1 (by decide) (fun h40 => o1 (k83 (Or.inr (Or.inl h40)))) (fun h40 => o0 ?_)
      refine q_isK (c := 6476969) (o.TB j) c.1 (by decide) (fun hk => o1 (k83 (Or.inr (Or.inr hk)))) (fun hk => o0 ?_)
      refine t_Sc_one_83 (ifp rfl (p_wrong (k := 1) c.1 ⟨vb0, her 1 j _ ?_ (FtE.of fr 1 j)⟩))
      rw [if_neg h45, if_neg h40, if_neg hk]
      by_cases hg : go = true
      · rw [if_pos hg]
      · rw [if_neg hg]
theorem expC {e : EC} (o : EOk e) {D : Nat} {op : Int32} {one : Nat → Res} (h1 : SpC e (D + 2) one y_Sc_one [.ref 1, .int op]) (gd : Gd e.m one) : SpC e (D + 6) (pExp e.b e.m one) y_Sc_joins [.ref 1, .int 0, .int op] := by
  have h3 : SpC e (D + 3) one y_Sc_joins [.ref 1, .int (nI (2 + 1)), .int op] := by
    intro j s Mn σ K c hb hok her
    exact e_Sc_joins (t_Sc_joins_0 (ifn (by decide) (h1 j s Mn σ _ c hb (fun j' s' τ hs c2 => ⟨vb1, hok j' s' τ hs c2⟩) (fun k jf τ hs f => ⟨vb0, her k jf τ hs f⟩))))
  obtain ⟨g2, g1, g0⟩ := pExp_Gd (b := e.b) gd
  have h2 : SpC e (D + 1 + 3) (pTerm e.b e.m one) y_Sc_joins [.ref 1, .int (nI (1 + 1)), .int op] := lvlC (D := D) o (lv := 2) (by decide) h3 gd
  have h1' : SpC e (D + 2 + 3) (pSum e.b e.m one) y_Sc_joins [.ref 1, .int (nI (0 + 1)), .int op] := lvlC (D := D + 1) o (lv := 1) (by decide) h2 g2
  exact lvlC (D := D + 2) o (lv := 0) (by decide) h1' g1
theorem pOneC {e : EC} (o : EOk e) (hfd : ∀ x i, e.fd x = some i → i < 16) : ∀ r, r ≤ 4 → SpC e (6 * r + 5) (pOne e.b e.m e.fd e.tb r) y_Sc_one [.ref 1, .int (nI (4 - r))]
  | 0, _ => oneC (D := 0) o (go := false) ⟨(fun z => by cases z), fun z => by omega⟩ (by omega) (fun z => by cases z) (fun j j' s h => by cases h) (fun z => by cases z) (fun j j' s h => by cases h)
  | r + 1, hr => by
    have ih := pOneC o hfd r (by omega)
    have g := pOne_Gd (tb := e.tb) o.1 o.2.1 hfd r
    have e1 : 4 - (r + 1) + 1 = 4 - r := by omega
    refine oneC (D := 6 * r + 6) o (go := true) ⟨fun _ => by omega, fun _ => rfl⟩ (by omega) (fun _ => ?_) (pExp_Gd g).2.2 (fun _ => ?_) g
    · rw [e1]
      exact expC (D := 6 * r + 3) o ih g
    · rw [e1]
      intro j s Mn σ K c hb hok her
      exact cts_up (by omega) (ih j s Mn σ K c hb hok her)
/-- an E, from nothing open -/
theorem p_E {e : EC} (o : EOk e) (hfd : ∀ x i, e.fd x = some i → i < 16) : SpC e 33 (pExp e.b e.m (pOne e.b e.m e.fd e.tb 4)) y_Sc_joins [.ref 1, .int 0, .int 0] :=
  expC (D := 27) o (pOneC o hfd 4 (Nat.le_refl _)) (pOne_Gd (tb := e.tb) o.1 o.2.1 hfd 4)
