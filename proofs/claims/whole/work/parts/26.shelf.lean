/-! ===== shelf ===== -/
theorem Rel_shelf {σ : Hp} (h : Rel σ) {s : Nat} {x1 x2 x3 y1 y2 y3 : Int32} (hq : (x1 = 0 ∧ y1 = -1) ∨ (x1 = 1 ∧ y1 = 0 ∧ x2 = y2) ∨ (x1 = 2 ∧ y1 = 1 ∧ x2 = y2 ∧ x3 = y3 ∧ ∃ k, k < 4 ∧ y2 = nI k)) : Rel (sI (sI (sI (sI (sI (sI σ 85 s x1) 86 s x2) 87 s x3) 122 s y1) 123 s y2) 124 s y3) := by
  obtain ⟨⟨n, now, ne, hc⟩, hr, hkp⟩ := h
  refine ⟨⟨n, now, ne, hc.same ((((((SameG.rf.sI rfl).sI rfl).sI rfl).sI rfl).sI rfl).sI rfl)⟩, ?_, hkp.same ((((((SameG.rf.sI rfl).sI rfl).sI rfl).sI rfl).sI rfl).sI rfl)⟩
  obtain ⟨g1, g2, g3, g4, g5, g6⟩ := hr
  refine ⟨g1, g2, g3, g4, fun k hk => ?_, g6⟩
  show (upd (σ.1 85) s x1 k = 0 ∧ upd (σ.1 122) s y1 k = -1) ∨ (upd (σ.1 85) s x1 k = 1 ∧ upd (σ.1 122) s y1 k = 0 ∧ upd (σ.1 86) s x2 k = upd (σ.1 123) s y2 k) ∨ (upd (σ.1 85) s x1 k = 2 ∧ upd (σ.1 122) s y1 k = 1 ∧ upd (σ.1 86) s x2 k = upd (σ.1 123) s y2 k ∧ upd (σ.1 87) s x3 k = upd (σ.1 124) s y3 k ∧ ∃ j, j < 4 ∧ upd (σ.1 123) s y2 k = nI j)
  by_cases e : k = s
  · subst e
    rw [pk_us, pk_us, pk_us, pk_us, pk_us, pk_us]
    exact hq
  · rw [pk_un e, pk_un e, pk_un e, pk_un e, pk_un e, pk_un e]
    exact g5 k hk
theorem p_lay {d : Nat} {K : Po} {σ : Hp} {s : Nat} {x1 x2 x3 : Int32} (hs : s < 4) (k : K (some (.int 1)) (sI (sI (sI σ 85 s x1) 86 s x2) 87 s x3)) : CTs (d + 1) y_SS_lay [.ref 0, .int (nI s), .int x1, .int x2, .int x3] σ K := by
  have hv : vp_in (nI s) 4 := vp_in_nI (by omega) (by omega)
  refine e_SS_lay (t_SS_lay_0 ⟨hv, hv, hv, ?_⟩)
  rw [nI_clamp (by omega)]
  exact k
theorem op_shelf : O_shelf Rel := by
  intro σ a1 a2 a3 h
  obtain ⟨⟨n, now, ne, a, b, c, ⟨tw, cx, -, -, -, -⟩, -⟩, hr, -⟩ := id h
  have h16 := tw.1
  have hn3 : σ.1 3 0 = nI n := cx.1
  have hsh := hr.2.2.2.1.1
  refine e_SS_shelf (t_SS_shelf_0 ?_)
  rcases ixc a1 (n := 4) (by omega) with z | ⟨s, hs, rfl⟩
  · exact p_sShelf0 z (o0 (e_M_shelf (t_M_shelf_0 (p_mShelf0 z (o0 ⟨rfl, h⟩)))))
  have hv : vp_in (nI s) 4 := vp_in_nI (by omega) (by omega)
  have hcl : (nI s).toNatClampNeg = s := nI_clamp (by omega)
  refine p_sShelf1 hs (o1 (ite2 (fun e => ?_) (fun e0 => ite2 (fun e => ?_) (fun e1 => ite2 (fun e => ?_) (fun e2 => ?_)))))
  · subst e
    rcases ixc a3 (n := n) (by omega) with z | ⟨i, hi, rfl⟩
    · exact p_has0 (Or.inl rfl) hn3 z (o0 (e_M_shelf (t_M_shelf_0 (p_mShelf1 hs (o1 (e_M_isHeld (t_M_isHeld_0 (ifp rfl (p_isThing0 a h16 z ⟨vb0, o0 ⟨rfl, h⟩⟩)))))))))
    · refine p_has1 (Or.inl rfl) hn3 h16 hi (o1 (p_lay hs (e_M_shelf (t_M_shelf_0 (p_mShelf1 hs (o1 (e_M_isHeld (t_M_isHeld_0 (ifp rfl (p_isThing1 (n := n) a h16 hi ⟨vb1, o1 ?_⟩))))))))))
      rw [hcl]
      exact ifn (by decide) (ifn (by decide) ⟨hv, ifn (by decide) ⟨hv, ifn (by decide) ⟨hv, rfl, Rel_shelf h (Or.inr (Or.inl ⟨rfl, rfl, rfl⟩))⟩⟩⟩)
  · subst e
    rcases ixc a3 (n := 4) (by omega) with z | ⟨w, hw, rfl⟩
    · exact p_sSheet0 z (o0 (e_M_shelf (t_M_shelf_0 (p_mShelf1 hs (o1 (e_M_isHeld (t_M_isHeld_0 (ifn (by decide) (ifp rfl (p_mShelf0 z ⟨vb0, o0 ⟨rfl, h⟩⟩))))))))))
    · obtain ⟨s1, s2, s3, zz, hz, s4⟩ := hsh w hw
      have hv2 : vp_in (nI w) 4 := vp_in_nI (by omega) (by omega)
      have hcl2 : (nI w).toNatClampNeg = w := nI_clamp (by omega)
      refine p_sSheet1 hw (o1 (e_SS_layRow (t_SS_layRow_0 ?_)))
      have mgo : ∀ (τ : Hp) (K : Po), τ.1 119 = σ.1 119 → τ.1 120 = σ.1 120 → K (some (.int 1)) (sI (sI (sI τ 122 s (if 0 ≤ σ.1 119 w then 1 else -1)) 123 s (σ.1 119 w)) 124 s (σ.1 120 w)) → CTs 60 y_M_shelf [.ref 98, .int (nI s), .int 1, .int (nI w)] τ K := by
        intro τ K t1 t2 q
        refine e_M_shelf (t_M_shelf_0 (p_mShelf1 hs (o1 (e_M_isHeld (t_M_isHeld_0 (ifn (by decide) (ifp rfl (p_mShelf1 hw ⟨vb1, o1 ?_⟩))))))))
        rw [hcl, hcl2, t1, t2]
        refine ifn (by decide) (ifp rfl ⟨hv2, ite2 (fun e => ?_) (fun e => ?_)⟩)
        · rw [if_pos e] at q
          exact ⟨hv, ifp rfl ⟨hv2, hv, ifp rfl ⟨hv2, hv, q⟩⟩⟩
        · rw [if_neg e] at q
          exact ⟨hv, ifp rfl ⟨hv2, hv, ifp rfl ⟨hv2, hv, q⟩⟩⟩
      rcases s2 with s2 | ⟨so, hso, s2⟩
      · refine p_miss1 hw (s1.trans s2) (o1 (p_lay hs (mgo _ _ rfl rfl ⟨rfl, Rel_shelf h (Or.inl ⟨rfl, ?_⟩)⟩)))
        rw [s2]; rfl
      · refine p_miss0 hw (by rw [s1, s2]; exact nI_nm1 (by omega)) (o0 ⟨hv2, hv2, p_lay hs (mgo _ _ rfl rfl ⟨rfl, Rel_shelf h (Or.inr (Or.inr ⟨rfl, ?_, ?_, ?_, so, hso, s2⟩))⟩)⟩)
        · rw [s2, if_pos (nI_pos' (by omega))]
        · rw [hcl2]; exact s1
        · rw [hcl2]; exact s3
  · subst e
    refine p_lay hs (e_M_shelf (t_M_shelf_0 (p_mShelf1 hs (o1 (e_M_isHeld (t_M_isHeld_0 (ifn (by decide) (ifn (by decide) (ifp rfl ⟨vb1, o1 ?_⟩)))))))))
    rw [hcl]
    exact ifp rfl ⟨hv, ifn (by decide) ⟨hv, ifn (by decide) ⟨hv, rfl, Rel_shelf h (Or.inl ⟨rfl, rfl⟩)⟩⟩⟩
  · exact e_M_shelf (t_M_shelf_0 (p_mShelf1 hs (o1 (e_M_isHeld (t_M_isHeld_0 (ifn e0 (ifn e1 (ifn e2 ⟨vb0, o0 ⟨rfl, h⟩⟩))))))))
