/-! ===== the class reads an E: a part ===== -/
theorem cw16 : ∀ i, i < 16 → ((nI i <<< ((4 : Int32) &&& 31)) ||| (1 : Int32)) = nI (cwN (100000 + i)) ∧ ((nI i <<< ((4 : Int32) &&& 31)) ||| (3 : Int32)) = nI (cwN (200000 + i)) := by decide +kernel
theorem cwP {v : Nat} (h : v ≤ 99999) : ((nI v <<< ((4 : Int32) &&& 31)) ||| (0 : Int32)) = nI (cwN v) := by
  rw [pk_shlN (n := v) _ 4 (by decide) (by omega), Int32.or_zero]
  unfold cwN
  rw [if_pos (by omega), Nat.mul_comm]
theorem p_skE {d : Nat} {K : Po} {e : EC} (o : EOk e) {j ch : Nat} {s : List Nat} {Mn : Nat → Prop} {σ : Hp} (c : SE e j s Mn σ) (hc : ch < 2 ^ 31) (h1 : isS e.b (tk e.b e.m j) ch → ∀ τ : Hp, SE e (j + 1) s Mn τ → K (some (.int 1)) τ) (h0 : ¬ isS e.b (tk e.b e.m j) ch → ∀ τ : Hp, FtE e 1 j τ → K (some (.int 0)) τ) : CTs (d + 3) y_Sc_skipSign [.ref 1, .int (nI ch)] σ K :=
  p_skipSign (o.TB j) (o.tp c.2.2.2.2.2) c.1 hc (fun h τ f ct => h1 h τ (c.S f ct)) (fun h => h0 h _ (FtE.of c.2.2.2.2.2 1 j))
def nmR (e : EC) (go : Bool) (E : Nat → Res) (j : Nat) : Res := match e.fd (wv e.b (tk e.b e.m j)) with
    | none => .error (2, j)
    | some i => nameF e.b e.m e.tb go E i j
theorem nameC {e : EC} (o : EOk e) {D op : Nat} {go : Bool} {E : Nat → Res} (hgo : go = true ↔ op < 4) (hop : op ≤ 4) (hE : go = true → SpC e (D + 3) E y_Sc_joins [.ref 1, .int 0, .int (nI (op + 1))]) (gE : Gd e.m E) {j : Nat} {s : List Nat} {Mn : Nat → Prop} {σ : Hp} {K : Po} (c : SE e j s Mn σ) (hb : e.c0 + s.length ≤ j) (hn : isNm e.b (tk e.b e.m j)) (hok : ∀ j' s' τ, nmR e go E j = .ok (j', s') → SE e j' (s ++ s') (fun i => Mn i ∨ men s' i) τ → K (some (.int 1)) τ) (her : ∀ k jf τ, nmR e go E j = .error (k, jf) → FtE e k jf τ → K (some (.int 0)) τ) : CTs (D + 4) y_Sc_name [.ref 1, .int (nI op)] σ K := by
  have hj : j < e.m := tkm (by rw [hn.1]; decide)
  have hm := o.1
  have hn0 := o.2.2.1
  have fr := c.2.2.2.2.2
  have h19 : σ.1 19 = e.s0.1 19 := fr.2.1 19 (by decide) (by decide) (by decide) (by decide)
  have h170 : σ.1 17 0 = nI e.n0 := (fr.2.2.1 0 (by decide)).trans o.2.2.2.2.1
  refine e_Sc_name (t_Sc_name_0 ?_)
  rw [(c.1.2.2.2.1 hn.1).2]
  have hfd := o.2.2.2.2.2.1 (wv e.b (tk e.b e.m j))
  refine p_find (Or.inr rfl) h170 (by omega) (fun h => ?_) (fun i hi h => ?_)
  · replace h : fnd (σ.1 19) (nI (wv e.b (tk e.b e.m j))) e.n0 0 = none := h
    rw [h19, hfd] at h
    refine ifn (by decide) (p_wrong (k := 2) c.1 ⟨vb0, her 2 j _ ?_ (FtE.of fr 2 j)⟩)
    unfold nmR
    rw [h]
  · replace h : fnd (σ.1 19) (nI (wv e.b (tk e.b e.m j))) e.n0 0 = some i := h
    rw [h19, hfd] at h
    have hR : nmR e go E j = nameF e.b e.m e.tb go E i j := by unfold nmR; rw [h]
    rw [hR] at hok her
    have hv : vp_in (nI i) 16 := vp_in_nI (by omega) (by omega)
    refine ifp (nI_le (a := 0) (b := i) (by omega) (by omega)) ⟨hv, hv, ?_⟩
    show CTs (D + 3) y_Sc_next [.ref 1] (sI σ 25 (nI i).toNatClampNeg (σ.1 25 (nI i).toNatClampNeg ||| 1 <<< (σ.1 17 0 &&& 31))) _
    rw [nI_clamp (n := i) (by omega), h170, o.2.2.2.2.2.2.2]
    have c1 : SE e j s (fun k => Mn k ∨ k = i) (sI σ 25 i (σ.1 25 i ||| e.bit)) := by
      obtain ⟨c1, c2, c3, c4, c5, c6⟩ := c
      refine ⟨c1, c2, c3, c4, fun k hk => ⟨fun z => ?_, fun z => ?_⟩, ⟨c6.1, fun a a1 a2 a3 a4 => by rw [sI_r, if_neg a3]; exact c6.2.1 a a1 a2 a3 a4, fun x hx => c6.2.2.1 x hx, fun x x5 x6 x7 x8 x9 => c6.2.2.2 x x5 x6 x7 x8 x9⟩⟩
      · rw [sI_r, if_pos rfl, upd_r]
        by_cases ek : k = i
        · rw [if_pos ek, ek]
          by_cases hM : Mn i
          · rw [(c5 i (by omega)).1 hM, Int32.or_assoc, Int32.or_self]
          · rw [(c5 i (by omega)).2 hM]
        · rw [if_neg ek]
          exact (c5 k hk).1 (z.resolve_right ek)
      · have z1 : ¬ Mn k := fun y => z (Or.inl y)
        have z2 : ¬ k = i := fun y => z (Or.inr y)
        rw [sI_r, if_pos rfl, upd_r, if_neg z2]
        exact (c5 k hk).2 z1
    refine p_nx (o.tp c1.2.2.2.2.2) c1.1 (fun τ f ct => ?_)
    have c2 := c1.S f ct
    have h18 : τ.1 18 i = e.s0.1 18 i := by rw [c2.2.2.2.2.2.2.1 18 (by decide) (by decide) (by decide) (by decide)]
    refine ⟨hv, ?_⟩
    show if τ.1 18 (nI i).toNatClampNeg = 4 then _ else _
    rw [nI_clamp (n := i) (by omega), h18]
    have htb := o.2.2.2.2.2.2.1 i hi
    by_cases ht : e.tb i = true
    · refine ifp (htb.mpr ht) ?_
      have hR2 : nameF e.b e.m e.tb go E i j = (if isS e.b (tk e.b e.m (j + 1)) 91 ∧ go = true then (match E (j + 2) with
        | .error e => .error e
        | .ok (j', s) => if isS e.b (tk e.b e.m j') 93 then .ok (j' + 1, s ++ [200000 + i]) else .error (1, j')) else .error (1, j + 1)) := if_pos ht
      rw [hR2] at hok her
      refine q_isS (c := 91) (o.TB _) c2.1 (by decide) (fun h91 => o1 ?_) (fun h91 => o0 ?_)
      · by_cases ho : op < 4
        · have hg := hgo.mpr ho
          rw [if_pos ⟨h91, hg⟩] at hok her
          refine ifp (nI_lt (b := 4) ho (by omega)) ?_
          refine p_nx (o.tp c2.2.2.2.2.2) c2.1 (fun τ2 f2 ct2 => o1 ?_)
          have c3 := c2.S f2 ct2
          rw [nI_1]
          refine hE hg (j + 1 + 1) s _ τ2 _ c3 (by omega) (fun j1 s1 τ3 hs c4 => o1 ?_) (fun k jf τ3 hs f4 => o0 ⟨vb0, ?_⟩)
          · obtain ⟨g1, g2, g3, g4⟩ := gE _ _ _ hs
            replace hs : E (j + 2) = .ok (j1, s1) := hs
            rw [hs] at hok her
            replace hok : ∀ j' s' τ, (if isS e.b (tk e.b e.m j1) 93 then (.ok (j1 + 1, s1 ++ [200000 + i]) : Res) else .error (1, j1)) = .ok (j', s') → SE e j' (s ++ s') (fun i => Mn i ∨ men s' i) τ → K (some (.int 1)) τ := hok
            replace her : ∀ k jf τ, (if isS e.b (tk e.b e.m j1) 93 then (.ok (j1 + 1, s1 ++ [200000 + i]) : Res) else .error (1, j1)) = .error (k, jf) → FtE e k jf τ → K (some (.int 0)) τ := her
            refine p_skE o (ch := 93) c4 (by decide) (fun h93 τ4 c5 => o1 ?_) (fun h93 τ4 f5 => o0 ⟨vb0, her 1 j1 τ4 (if_neg h93) f5⟩)
            have hl : (s ++ s1).length = s.length + s1.length := List.length_append
            have hj1 := isS_m h93
            refine p_addE (x := 200000 + i) c5 (by omega) (cw16 i (by omega)).2 (fun τ5 c6 => o1 ⟨vb1, ?_⟩)
            rw [List.append_assoc] at c6
            refine hok (j1 + 1) (s1 ++ [200000 + i]) τ5 (if_pos h93) (c6.mn (fun k hk => ?_))
            rw [men_app]
            constructor
            · intro z
              rcases z with (z | z) | z
              · exact Or.inl z
              · exact Or.inr (Or.inr (Or.inr (by rw [z]; exact List.mem_singleton.mpr rfl)))
              · exact Or.inr (Or.inl z)
            · intro z
              rcases z with z | (z | (z | z))
              · exact Or.inl (Or.inl z)
              · exact Or.inr z
              · rw [List.mem_singleton] at z; omega
              · rw [List.mem_singleton] at z; exact Or.inl (Or.inr (by omega))
          · replace hs : E (j + 2) = .error (k, jf) := hs
            rw [hs] at her
            exact her k jf τ3 rfl f4
        · rw [if_neg (fun z => ho (hgo.mp z.2))] at her
          exact ifn (nI_nlt (a := op) (b := 4) (by omega) (by omega)) (p_wrong (k := 1) c2.1 ⟨vb0, her 1 (j + 1) _ rfl (FtE.of c2.2.2.2.2.2 1 (j + 1))⟩)
      · rw [if_neg (fun z => h91 z.1)] at her
        exact p_wrong (k := 1) c2.1 ⟨vb0, her 1 (j + 1) _ rfl (FtE.of c2.2.2.2.2.2 1 (j + 1))⟩
    · refine ifn (fun z => ht (htb.mp z)) ?_
      have hR2 : nameF e.b e.m e.tb go E i j = .ok (j + 1, [100000 + i]) := if_neg ht
      rw [hR2] at hok
      refine p_addE (x := 100000 + i) c2 (by omega) (cw16 i (by omega)).1 (fun τ5 c6 => ⟨vb1, ?_⟩)
      refine hok (j + 1) [100000 + i] τ5 rfl (c6.mn (fun k hk => ?_))
      constructor
      · intro z
        rcases z with z | z
        · exact Or.inl z
        · exact Or.inr (Or.inl (by rw [z]; exact List.mem_singleton.mpr rfl))
      · intro z
        rcases z with z | (z | z)
        · exact Or.inl z
        · rw [List.mem_singleton] at z; exact Or.inr (by omega)
        · rw [List.mem_singleton] at z; omega
