theorem p_munder {d : Nat} {K : Po} {σ : Hp} {k a : Nat} (hk : k < 7) (ha : a < 7) (q : K (some (.int (if undr k a then 1 else 0))) σ) : CTs (d + 1) y_M_isUnder [.int (nI k), .int (nI a)] σ K := by
  refine e_M_isUnder (t_M_isUnder_0 ?_)
  match k, hk, a, ha with
  | 0, _, 0, _ | 0, _, 1, _ | 0, _, 2, _ | 0, _, 3, _ | 0, _, 4, _ | 0, _, 5, _ | 0, _, 6, _ | 1, _, 0, _ | 1, _, 1, _ | 1, _, 2, _ | 1, _, 3, _ | 1, _, 4, _ | 1, _, 5, _ | 1, _, 6, _ | 2, _, 0, _ | 2, _, 1, _ | 2, _, 2, _ | 2, _, 3, _ | 2, _, 4, _ | 2, _, 5, _ | 2, _, 6, _ | 3, _, 0, _ | 3, _, 1, _ | 3, _, 2, _ | 3, _, 3, _ | 3, _, 4, _ | 3, _, 5, _ | 3, _, 6, _ | 4, _, 0, _ | 4, _, 1, _ | 4, _, 2, _ | 4, _, 3, _ | 4, _, 4, _ | 4, _, 5, _ | 4, _, 6, _ | 5, _, 0, _ | 5, _, 1, _ | 5, _, 2, _ | 5, _, 3, _ | 5, _, 4, _ | 5, _, 5, _ | 5, _, 6, _ | 6, _, 0, _ | 6, _, 1, _ | 6, _, 2, _ | 6, _, 3, _ | 6, _, 4, _ | 6, _, 5, _ | 6, _, 6, _ =>
    repeat (first | refine ifp (by decide) ?_ | refine ifn (by decide) ?_)
    first | exact ⟨vb1, q⟩ | exact ⟨vb0, q⟩
theorem cls2 (a : Int32) : (∃ k, k < 7 ∧ a = nI k) ∨ (∃ w, w < 4 ∧ a = nI (10 + w)) ∨ nIx a 7 ∧ (a < 10 ∨ 13 < a) := by
  rcases ixc a (n := 7) (by omega) with z | h
  · rcases ixc a (n := 14) (by omega) with q | ⟨j, hj, rfl⟩
    · refine Or.inr (Or.inr ⟨z, ?_⟩)
      rcases q with q | q
      · exact Or.inl (Int32.lt_of_lt_of_le q (by decide))
      · exact Or.inr (Int32.lt_of_lt_of_le (by decide) q)
    · by_cases h10 : 10 ≤ j
      · exact Or.inr (Or.inl ⟨j - 10, by omega, by rw [show 10 + (j - 10) = j by omega]⟩)
      · exact Or.inr (Or.inr ⟨z, Or.inl (nI_lt (b := 10) (by omega) (by omega))⟩)
  · exact Or.inl h
theorem p_kindOnT {d : Nat} {K : Po} {σ : Hp} {s i n : Nat} (hs : s < 4) (hn : σ.1 98 0 = nI n) (h16 : n ≤ 16) (h1 : σ.1 122 s = 0) (hi : i < n) (h2 : σ.1 123 s = nI i) (k : K (some (.int (σ.1 99 (20 * i)))) σ) : CTs (d + 3) y_M_kindOn [.ref 98, .int (nI s)] σ K := by
  refine e_M_kindOn (t_M_kindOn_0 ⟨vp_in_nI (by omega) (by omega), ?_⟩)
  rw [nI_clamp (by omega), h2]
  refine ifp h1 ⟨vp_in_nI (by omega) (by omega), p_isThing1 hn h16 hi (o1 ⟨vp_in_nI (by omega) (by omega), ?_⟩)⟩
  rw [h2]
  exact p_of (w := 0) (by omega) (by omega) k
theorem p_kindOnN {d : Nat} {K : Po} {σ : Hp} {s n : Nat} (hs : s < 4) (hn : σ.1 98 0 = nI n) (h16 : n ≤ 16) (h : σ.1 122 s = -1 ∨ σ.1 122 s = 0 ∧ nIx (σ.1 123 s) n) (k : K (some (.int (-1))) σ) : CTs (d + 3) y_M_kindOn [.ref 98, .int (nI s)] σ K := by
  refine e_M_kindOn (t_M_kindOn_0 ⟨vp_in_nI (by omega) (by omega), ?_⟩)
  rw [nI_clamp (by omega)]
  rcases h with h | ⟨h, z⟩
  · rw [h]
    exact ifn (by decide) ⟨vp_in_nI (by omega) (by omega), ifn (by decide) k⟩
  · exact ifp h ⟨vp_in_nI (by omega) (by omega), p_isThing0 hn h16 z (o0 k)⟩
theorem p_kindOnR {d : Nat} {K : Po} {σ : Hp} {s : Nat} (hs : s < 4) (h : σ.1 122 s = 1) (k : K (some (.int 9)) σ) : CTs (d + 3) y_M_kindOn [.ref 98, .int (nI s)] σ K := by
  refine e_M_kindOn (t_M_kindOn_0 ⟨vp_in_nI (by omega) (by omega), ?_⟩)
  rw [nI_clamp (by omega), h]
  exact ifn (by decide) ⟨vp_in_nI (by omega) (by omega), ifp (by decide) k⟩
theorem op_taken : O_taken Rel := by
  intro σ a1 a2 h
  obtain ⟨⟨n, now, ne, a, b, c, ⟨tw, cx, -, -, -, -⟩, -⟩, hr, -⟩ := id h
  have h16 := tw.1
  have hn3 : σ.1 3 0 = nI n := cx.1
  have hsh := hr.2.2.2.2.1
  refine e_SS_taken (t_SS_taken_0 ?_)
  have mno : nIx a1 4 → CTs 60 y_M_taken [.ref 98, .int a1, .int a2] σ (fun r' σ2 => oI (some (.int (-1 : Int32))) = oI r' ∧ Rel σ2) := fun z => e_M_taken (t_M_taken_0 (p_mShelf0 z (o0 ⟨rfl, h⟩)))
  rcases cls2 a2 with ⟨k, hk, rfl⟩ | ⟨w, hw, rfl⟩ | ⟨z7, zz⟩
  · refine ifn (nI_pos (by omega)) (ifn (nI_ge (b := 7) hk (by omega)) (ifp (nI_lt (b := 10) (by omega) (by omega)) (t_SS_taken_33 ?_)))
    rcases ixc a1 (n := 4) (by omega) with z | ⟨s, hs, rfl⟩
    · exact p_sShelf0 z (o0 (mno z))
    have hv : vp_in (nI s) 4 := vp_in_nI (by omega) (by omega)
    have hcl : (nI s).toNatClampNeg = s := nI_clamp (by omega)
    have mgo : ∀ K : Po, CTs 59 y_M_kindOn [.ref 98, .int (nI s)] σ (fun r3 σ3 => (if 0 ≤ (oI r3) then ((if (oI r3) = (9 : Int32) then (vp_in (nI s) 4 ∧ ((if nI k = ((10 : Int32) + (σ3.1 123 s)) then (vp_in (nI s) 4 ∧ (K (some (.int (σ3.1 124 s))) σ3)) else (K (some (.int (-13 : Int32))) σ3)))) else ((if (10 : Int32) ≤ nI k then (K (some (.int (-13 : Int32))) σ3) else (CTs 59 y_M_isUnder [.int (oI r3), .int (nI k)] σ3 (fun r4 σ4 => (if (oI r4) = 0 then (K (some (.int (-13 : Int32))) σ4) else (vp_in (nI s) 4 ∧ (K (some (.int (σ4.1 123 s))) σ4))))))))) else (K (some (.int (-11 : Int32))) σ3))) → CTs 60 y_M_taken [.ref 98, .int (nI s), .int (nI k)] σ K := fun K q => by
      refine e_M_taken (t_M_taken_0 (p_mShelf1 hs (o1 (p_inJ' (n := 7) rfl hk (by omega) (o1 ?_)))))
      rw [hcl]
      exact q
    refine p_sShelf1 hs (o1 (ifn (by decide) ⟨hv, ?_⟩))
    rw [hcl]
    rcases hsh s hs with ⟨q1, q2⟩ | ⟨q1, q2, q3⟩ | ⟨q1, q2, q3, q4, k2, hk2, q5⟩
    · exact ifn (by rw [q1]; decide) (p_thingOn0 hs hn3 (Or.inl (by rw [q1]; decide)) (ifn (by decide) (mgo _ (p_kindOnN hs a h16 (Or.inl q2) (ifn (by decide) ⟨rfl, h⟩)))))
    · refine ifn (by rw [q1]; decide) ?_
      rcases ixc (σ.1 86 s) (n := n) (by omega) with z | ⟨i, hi, hu⟩
      · exact p_thingOn0 hs hn3 (Or.inr z) (ifn (by decide) (mgo _ (p_kindOnN hs a h16 (Or.inr ⟨q2, by rw [← q3]; exact z⟩) (ifn (by decide) ⟨rfl, h⟩))))
      · obtain ⟨kk, k1, k6, hkk⟩ := (tw.2 i hi).1
        have hk4 : σ.1 4 i = nI kk := (cx.2.1 i hi).1.trans hkk
        refine p_thingOn1 hs hn3 h16 q1 hi hu (ifp (nI_pos' (by omega)) (ifn (by decide) ⟨vp_in_nI (n := i) (by omega) (by omega), ?_⟩))
        show CTs 59 y_SS_isUnder [.int (σ.1 4 (nI i).toNatClampNeg), .int (nI k)] σ _
        rw [nI_clamp (by omega), hk4]
        refine p_under (by omega) hk ?_
        have fin : ∀ K : Po, K (some (.int (if undr kk k then nI i else -13))) σ → CTs 60 y_M_taken [.ref 98, .int (nI s), .int (nI k)] σ K := fun K q => by
          refine mgo _ (p_kindOnT hs a h16 q2 hi (by rw [← q3]; exact hu) ?_)
          show (if 0 ≤ σ.1 99 (20 * i) then _ else _)
          rw [hkk]
          refine ifp (nI_pos' (by omega)) (ifn ?_ (ifn (nI_ge (b := 10) (by omega) (by omega)) ?_))
          · exact fun e => by have := (nI_eq (a := kk) (b := 9) (by omega) (by omega)).mp e; omega
          · refine p_munder (by omega) hk ?_
            cases hu2 : undr kk k with
            | true => rw [hu2, if_pos rfl] at q; exact ifn (by decide) ⟨hv, by rw [← q3, hu]; exact q⟩
            | false => rw [hu2, if_neg (by decide)] at q; exact ifp rfl q
        cases hu2 : undr kk k with
        | true => exact ifn (by decide) (fin _ (by rw [hu2, if_pos rfl]; exact ⟨rfl, h⟩))
        | false => exact ifp rfl (fin _ (by rw [hu2, if_neg (by decide)]; exact ⟨rfl, h⟩))
    · refine ifp q1 ⟨hv, ifn ?_ (mgo _ (p_kindOnR hs q2 (ifp (by decide) (ifp rfl ⟨hv, ifn ?_ ⟨rfl, h⟩⟩))))⟩
      · rw [q3, q5]
        intro e
        have := congrArg Int32.toInt e
        rw [show nI k - 10 = nI k - nI 10 from rfl, pk_sub_toInt (by omega) (by omega), nI_toInt (by omega)] at this
        omega
      · rw [q5]
        intro e
        rw [show (10 : Int32) + nI k2 = nI (10 + k2) from nI_add 10 k2, nI_eq (by omega) (by omega)] at e
        omega
  · have hm : ∀ {K : Po}, nIx a1 4 → True := fun _ => trivial
    refine ifn (nI_pos (by omega)) (ifp (nI_le (a := 7) (by omega) (by omega)) (ifn (fun e => absurd e (nI_nlt (b := 10) (by omega) (by omega))) (ifn (fun e => absurd e (nI_nlt (a := 13) (by omega) (by omega))) (t_SS_taken_33 ?_))))
    rcases ixc a1 (n := 4) (by omega) with z | ⟨s, hs, rfl⟩
    · exact p_sShelf0 z (o0 (mno z))
    have hv : vp_in (nI s) 4 := vp_in_nI (by omega) (by omega)
    have hcl : (nI s).toNatClampNeg = s := nI_clamp (by omega)
    have mgo : ∀ K : Po, CTs 59 y_M_kindOn [.ref 98, .int (nI s)] σ (fun r3 σ3 => (if 0 ≤ (oI r3) then ((if (oI r3) = (9 : Int32) then (vp_in (nI s) 4 ∧ ((if nI (10 + w) = ((10 : Int32) + (σ3.1 123 s)) then (vp_in (nI s) 4 ∧ (K (some (.int (σ3.1 124 s))) σ3)) else (K (some (.int (-13 : Int32))) σ3)))) else ((if (10 : Int32) ≤ nI (10 + w) then (K (some (.int (-13 : Int32))) σ3) else (CTs 59 y_M_isUnder [.int (oI r3), .int (nI (10 + w))] σ3 (fun r4 σ4 => (if (oI r4) = 0 then (K (some (.int (-13 : Int32))) σ4) else (vp_in (nI s) 4 ∧ (K (some (.int (σ4.1 123 s))) σ4))))))))) else (K (some (.int (-11 : Int32))) σ3))) → CTs 60 y_M_taken [.ref 98, .int (nI s), .int (nI (10 + w))] σ K := fun K q => by
      refine e_M_taken (t_M_taken_0 (p_mShelf1 hs (o1 (p_inN' (n := 7) rfl (Or.inr (nI_le (a := 7) (by omega) (by omega))) (by omega) (o0 (p_in1 (fun e => absurd e (nI_nlt (b := 10) (by omega) (by omega))) (fun e => absurd e (nI_nlt (a := 13) (by omega) (by omega))) (o1 ?_)))))))
      rw [hcl]
      exact q
    refine p_sShelf1 hs (o1 (ifp rfl (ifn (by decide) ⟨hv, ?_⟩)))
    rw [hcl]
    rcases hsh s hs with ⟨q1, q2⟩ | ⟨q1, q2, q3⟩ | ⟨q1, q2, q3, q4, k2, hk2, q5⟩
    · exact ifn (by rw [q1]; decide) (p_thingOn0 hs hn3 (Or.inl (by rw [q1]; decide)) (ifn (by decide) (mgo _ (p_kindOnN hs a h16 (Or.inl q2) (ifn (by decide) ⟨rfl, h⟩)))))
    · refine ifn (by rw [q1]; decide) ?_
      rcases ixc (σ.1 86 s) (n := n) (by omega) with z | ⟨i, hi, hu⟩
      · exact p_thingOn0 hs hn3 (Or.inr z) (ifn (by decide) (mgo _ (p_kindOnN hs a h16 (Or.inr ⟨q2, by rw [← q3]; exact z⟩) (ifn (by decide) ⟨rfl, h⟩))))
      · obtain ⟨kk, k1, k6, hkk⟩ := (tw.2 i hi).1
        refine p_thingOn1 hs hn3 h16 q1 hi hu (ifp (nI_pos' (by omega)) (ifp rfl (mgo _ (p_kindOnT hs a h16 q2 hi (by rw [← q3]; exact hu) ?_))))
        show (if 0 ≤ σ.1 99 (20 * i) then _ else _)
        rw [hkk]
        refine ifp (nI_pos' (by omega)) (ifn ?_ (ifp (nI_le (a := 10) (by omega) (by omega)) ⟨rfl, h⟩))
        exact fun e => by have := (nI_eq (a := kk) (b := 9) (by omega) (by omega)).mp e; omega
    · refine ifp q1 ⟨hv, ?_⟩
      have e1 : nI (10 + w) - 10 = nI w := by
        rw [show (10 : Int32) = nI 10 from rfl, pk_sub (by omega)]
        congr 1
        omega
      have e2 : (10 : Int32) + nI k2 = nI (10 + k2) := nI_add 10 k2
      rw [e1, q3, q5]
      refine ite2 (fun e => ⟨hv, mgo _ (p_kindOnR hs q2 (ifp (by decide) (ifp rfl ⟨hv, ifp ?_ ⟨hv, q4, h⟩⟩)))⟩) (fun e => mgo _ (p_kindOnR hs q2 (ifp (by decide) (ifp rfl ⟨hv, ifn ?_ ⟨rfl, h⟩⟩))))
      · rw [q5, e2, (nI_eq (by omega) (by omega)).mp e]
      · rw [q5, e2]
        exact fun z => e ((nI_eq (by omega) (by omega)).mpr (by have := (nI_eq (by omega) (by omega)).mp z; omega))
  · have hm : CTs 60 y_M_taken [.ref 98, .int a1, .int a2] σ (fun r' σ2 => oI (some (.int (-1 : Int32))) = oI r' ∧ Rel σ2) := by
      rcases ixc a1 (n := 4) (by omega) with z | ⟨s, hs, rfl⟩
      · exact mno z
      · exact e_M_taken (t_M_taken_0 (p_mShelf1 hs (o1 (p_inN' (n := 7) rfl z7 (by omega) (o0 (p_in0 zz (o0 ⟨rfl, h⟩)))))))
    have go : WP c_SS_taken (CTs 59) (fun r σ1 => CTs 60 y_M_taken [.ref 98, .int a1, .int a2] σ1 (fun r' σ2 => oI r = oI r' ∧ Rel σ2)) (33, [(0, .ref 0), (1, .int a1), (2, .int a2), (3, .int (0 : Int32))], [.int (0 : Int32)]) σ := by
      refine t_SS_taken_33 ?_
      rcases ixc a1 (n := 4) (by omega) with z | ⟨s, hs, rfl⟩
      · exact p_sShelf0 z (o0 hm)
      · exact p_sShelf1 hs (o1 (ifp rfl (ifp rfl hm)))
    refine ite2 (fun h0 => ifp (Int32.lt_of_lt_of_le h0 (by decide)) go) (fun h0 => ifp ?_ (ite2 (fun _ => go) (fun h10 => ifp ?_ go)))
    · rcases z7 with z | z
      · exact absurd z h0
      · exact z
    · rcases zz with z | z
      · exact absurd z h10
      · exact z
