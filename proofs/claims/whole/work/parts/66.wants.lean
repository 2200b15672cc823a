/-! ===== the reference: what it wants ===== -/
def fltS (t : Tok) (k : Nat) (σ : Hp) : Hp := sI (sI σ 98 10 (nI k)) 98 11 (nI t.2.1)
theorem rGood1 {d : Nat} {K : Po} {σ : Hp} (h : σ.1 98 10 = 0) (q : K (some (.int 1)) σ) : CTs (d + 1) y_M_isGood [.ref 98] σ K := e_M_isGood (t_M_isGood_0 (ifp h ⟨vb1, q⟩))
theorem rGood0 {d : Nat} {K : Po} {σ : Hp} (h : ¬ σ.1 98 10 = 0) (q : K (some (.int 0)) σ) : CTs (d + 1) y_M_isGood [.ref 98] σ K := e_M_isGood (t_M_isGood_0 (ifn h ⟨vb0, q⟩))
theorem rFaults {d : Nat} {K : Po} {σ : Hp} {b : Nat → Nat} {t : Tok} {k : Nat} (h : σ.1 98 10 = 0) (mt : MTk b t σ) (q : K none (fltS t k σ)) : CTs (d + 2) y_M_faults [.ref 98, .int (nI k)] σ K := by
  refine e_M_faults (t_M_faults_0 (rGood1 h (o1 ?_)))
  rw [mt.2.1]
  exact q
theorem rFaults0 {d : Nat} {K : Po} {σ : Hp} {a : Int32} (h : ¬ σ.1 98 10 = 0) (q : K none σ) : CTs (d + 2) y_M_faults [.ref 98, .int a] σ K := e_M_faults (t_M_faults_0 (rGood0 h (o0 q)))
theorem fltS_10 {t : Tok} {k : Nat} {σ : Hp} (hk : 0 < k) (h3 : k < 4) : ¬ (fltS t k σ).1 98 10 = 0 := by
  unfold fltS
  rw [sI_r, if_pos rfl, upd_r, if_neg (by decide), sI_r, if_pos rfl, upd_r, if_pos rfl]
  exact nI_ne0 hk (by omega)
theorem rMark {d : Nat} {K : Po} {σ : Hp} {b : Nat → Nat} {m j c : Nat} (tb : TB b (tk b m j)) (tp : TpM b m σ) (mt : MTk b (tk b m j) σ) (h : σ.1 98 10 = 0) (hc : c < 2 ^ 31) (h1 : isS b (tk b m j) c → ∀ τ : Hp, FrT σ τ → MTk b (tk b m (j + 1)) τ → K none τ) (h0 : ¬ isS b (tk b m j) c → K none (fltS (tk b m j) 1 σ)) : CTs (d + 4) y_M_wantMark [.ref 98, .int (nI c)] σ K := by
  refine e_M_wantMark (t_M_wantMark_0 (rGood1 h (o1 (q_mk tb mt hc (fun z => o1 ?_) (fun z => o0 ?_)))))
  · exact rGood1 h (o1 (p_av tp mt (fun τ f c2 => h1 z τ f c2)))
  · exact rFaults (k := 1) h mt (rGood0 (fltS_10 (by decide) (by decide)) (o0 (h0 z)))
theorem rMark0 {d : Nat} {K : Po} {σ : Hp} {a : Int32} (h : ¬ σ.1 98 10 = 0) (q : K none σ) : CTs (d + 4) y_M_wantMark [.ref 98, .int a] σ K := e_M_wantMark (t_M_wantMark_0 (rGood0 h (o0 (rGood0 h (o0 q)))))
theorem rWord {d : Nat} {K : Po} {σ : Hp} {b : Nat → Nat} {m j c : Nat} (tb : TB b (tk b m j)) (tp : TpM b m σ) (mt : MTk b (tk b m j) σ) (h : σ.1 98 10 = 0) (hc : c < 2 ^ 31) (h1 : isK b (tk b m j) c → ∀ τ : Hp, FrT σ τ → MTk b (tk b m (j + 1)) τ → K none τ) (h0 : ¬ isK b (tk b m j) c → K none (fltS (tk b m j) 1 σ)) : CTs (d + 4) y_M_wantWord [.ref 98, .long (lN c)] σ K := by
  refine e_M_wantWord (t_M_wantWord_0 (rGood1 h (o1 (q_wd tb mt hc (fun z => o1 ?_) (fun z => o0 ?_)))))
  · exact rGood1 h (o1 (p_av tp mt (fun τ f c2 => h1 z τ f c2)))
  · exact rFaults (k := 1) h mt (rGood0 (fltS_10 (by decide) (by decide)) (o0 (h0 z)))
theorem rWord0 {d : Nat} {K : Po} {σ : Hp} {a : Int64} (h : ¬ σ.1 98 10 = 0) (q : K none σ) : CTs (d + 4) y_M_wantWord [.ref 98, .long a] σ K := e_M_wantWord (t_M_wantWord_0 (rGood0 h (o0 (rGood0 h (o0 q)))))
theorem rNum {d : Nat} {K : Po} {σ : Hp} {b : Nat → Nat} {m j lo hi : Nat} (tb : TB b (tk b m j)) (tp : TpM b m σ) (mt : MTk b (tk b m j) σ) (h : σ.1 98 10 = 0) (hlo : lo < 2 ^ 31) (hhi : hi < 2 ^ 31) (h1 : isNu b (tk b m j) lo hi → ∀ τ : Hp, FrT σ τ → MTk b (tk b m (j + 1)) τ → K (some (.int (nI (dv b (tk b m j))))) τ) (h0 : ¬ isNu b (tk b m j) lo hi → K (some (.int 0)) (fltS (tk b m j) 1 σ)) : CTs (d + 4) y_M_wantNumber [.ref 98, .int (nI lo), .int (nI hi)] σ K := by
  refine e_M_wantNumber (t_M_wantNumber_0 (rGood1 h (o1 ?_)))
  have b3 := tb.1
  rw [mt.1]
  have bad : ¬ isNu b (tk b m j) lo hi → CTs (d + 3) y_M_faults [.ref 98, .int (1 : Int32)] σ (fun _ σ7 => CTs (d + 3) y_M_isGood [.ref 98] σ7 (fun r8 σ8 => (if (oI r8) = 0 then (K (some (.int 0)) σ8) else (CTs (d + 3) y_M_advance [.ref 98] σ8 (fun _ σ9 => K (some (.int (σ.1 98 9))) σ9))))) := fun z =>
    rFaults (k := 1) h mt (rGood0 (fltS_10 (by decide) (by decide)) (o0 (h0 z)))
  by_cases e2 : (tk b m j).1 = 2
  · refine ifp (by rw [e2]; rfl) ?_
    have hv := mt.2.2.2.2.1 e2
    have hd := tb.2.2.2.2.1 e2
    by_cases e5 : (tk b m j).2.2 - (tk b m j).2.1 ≤ 5
    · rw [if_pos e5] at hv
      by_cases el : dv b (tk b m j) < lo
      · exact ifp (by rw [hv]; exact nI_lt el hlo) (bad (fun z => absurd z.2.2.1 (by omega)))
      · refine ifn (by rw [hv]; exact nI_nlt (by omega) (by omega)) ?_
        by_cases eh : dv b (tk b m j) ≤ hi
        · refine ifp (by rw [hv]; exact nI_le eh hhi) (rGood1 h (o1 (p_av tp mt (fun τ f c2 => ?_))))
          rw [hv]
          exact h1 ⟨e2, e5, by omega, eh⟩ τ f c2
        · exact ifn (by rw [hv]; exact nI_ge (by omega) (by omega)) (bad (fun z => absurd z.2.2.2 (by omega)))
    · rw [if_neg e5] at hv
      refine ifp ?_ (bad (fun z => e5 z.2.1))
      rw [hv, Int32.lt_iff_toInt_lt, nI_toInt hlo, show (-1 : Int32).toInt = -1 from by decide]
      omega
  · exact ifn (fun z => e2 ((nI_eq (b := 2) (by omega) (by omega)).mp z)) (bad (fun z => e2 z.1))
theorem rNum0 {d : Nat} {K : Po} {σ : Hp} {a c : Int32} (h : ¬ σ.1 98 10 = 0) (q : K (some (.int 0)) σ) : CTs (d + 4) y_M_wantNumber [.ref 98, .int a, .int c] σ K := e_M_wantNumber (t_M_wantNumber_0 (rGood0 h (o0 (rGood0 h (o0 q)))))
theorem MR.flt {e : EC} {j f : Nat} {P E : List Nat} {o : Nat} {σ : Hp} (h : MR e none j P E o σ) : MR e (some (f, (tk e.b e.m j).2.1)) j P E o (fltS (tk e.b e.m j) f σ) := by
  obtain ⟨h1, h2, h3, h4, h5, h6, h7, h8, h9⟩ := h
  have g : ∀ y, y ≠ 10 → y ≠ 11 → (fltS (tk e.b e.m j) f σ).1 98 y = σ.1 98 y := fun y y1 y2 => by unfold fltS; rw [sI_r, if_pos rfl, upd_r, if_neg y2, sI_r, if_pos rfl, upd_r, if_neg y1]
  have g' : ∀ c, c ≠ 98 → (fltS (tk e.b e.m j) f σ).1 c = σ.1 c := fun c c1 => by unfold fltS; rw [sI_r, if_neg c1, sI_r, if_neg c1]
  obtain ⟨a1, a2, a3, a4, a5, a6⟩ := h1
  refine ⟨⟨(g 5 (by decide) (by decide)).trans a1, (g 6 (by decide) (by decide)).trans a2, (g 7 (by decide) (by decide)).trans a3, a4, fun z => (g 9 (by decide) (by decide)).trans (a5 z), fun z => (g 9 (by decide) (by decide)).trans (a6 z)⟩, (g 14 (by decide) (by decide)).trans h2, h3, h4, (g 17 (by decide) (by decide)).trans h5, h6, (g 18 (by decide) (by decide)).trans h7, ⟨?_, ?_⟩, fun c c1 c2 c3 => (g' c c1).trans (h9.1 c c1 c2 c3), fun y y1 y2 y3 y4 y5 y6 y7 y8 y9 => (g y y5 y6).trans (h9.2.1 y y1 y2 y3 y4 y5 y6 y7 y8 y9), h9.2.2.1, h9.2.2.2⟩
  · unfold fltS; rw [sI_r, if_pos rfl, upd_r, if_neg (by decide), sI_r, if_pos rfl, upd_r, if_pos rfl]
  · unfold fltS; rw [sI_r, if_pos rfl, upd_r, if_pos rfl]
