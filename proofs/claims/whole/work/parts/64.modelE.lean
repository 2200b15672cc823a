/-! ===== the reference reads an E: what stands ===== -/
theorem q_mk {d : Nat} {K : Po} {σ : Hp} {b : Nat → Nat} {t : Tok} {c : Nat} (tb : TB b t) (ct : MTk b t σ) (hc : c < 2 ^ 31) (h1 : isS b t c → K (some (.int 1)) σ) (h0 : ¬ isS b t c → K (some (.int 0)) σ) : CTs (d + 1) y_M_isMark [.ref 98, .int (nI c)] σ K := p_isMark tb ct hc (by
  by_cases h : isS b t c
  · rw [if_pos h]; exact h1 h
  · rw [if_neg h]; exact h0 h)
theorem q_wd {d : Nat} {K : Po} {σ : Hp} {b : Nat → Nat} {t : Tok} {c : Nat} (tb : TB b t) (ct : MTk b t σ) (hc : c < 2 ^ 31) (h1 : isK b t c → K (some (.int 1)) σ) (h0 : ¬ isK b t c → K (some (.int 0)) σ) : CTs (d + 1) y_M_isWord [.ref 98, .long (lN c)] σ K := p_isWord tb ct hc (by
  by_cases h : isK b t c
  · rw [if_pos h]; exact h1 h
  · rw [if_neg h]; exact h0 h)
theorem q_mNm {d : Nat} {K : Po} {σ : Hp} {b : Nat → Nat} {t : Tok} (tb : TB b t) (ct : MTk b t σ) (h1 : isNm b t → K (some (.int 1)) σ) (h0 : ¬ isNm b t → K (some (.int 0)) σ) : CTs (d + 4) y_M_isName [.ref 98] σ K := p_mName tb ct (by
  by_cases h : isNm b t
  · rw [if_pos h]; exact h1 h
  · rw [if_neg h]; exact h0 h)
def StP (f : Nat → Int32) : List Nat → Prop
  | [] => True
  | x :: P => f P.length = nI x ∧ StP f P
theorem StP.cong {f g : Nat → Int32} : ∀ {P : List Nat}, StP f P → (∀ q, q < P.length → g q = f q) → StP g P
  | [], _, _ => trivial
  | x :: P, h, hq => ⟨(hq P.length (Nat.lt_succ_self _)).trans h.1, h.2.cong (fun q hl => hq q (Nat.lt_succ_of_lt hl))⟩
def FrX (σ0 σ : Hp) : Prop := (∀ c, c ≠ 98 → c ≠ 103 → c ≠ 104 → σ.1 c = σ0.1 c) ∧ (∀ x, x ≠ 5 → x ≠ 6 → x ≠ 7 → x ≠ 9 → x ≠ 10 → x ≠ 11 → x ≠ 14 → x ≠ 17 → x ≠ 18 → σ.1 98 x = σ0.1 98 x) ∧ (∀ c, c ≠ 98 → σ.2 c = σ0.2 c) ∧ ∀ x, x ≠ 8 → σ.2 98 x = σ0.2 98 x
theorem FrX.rf {σ : Hp} : FrX σ σ := ⟨fun _ _ _ _ => rfl, fun _ _ _ _ _ _ _ _ _ _ => rfl, fun _ _ => rfl, fun _ _ => rfl⟩
theorem FrX.T {σ0 σ τ : Hp} (h : FrX σ0 σ) (f : FrT σ τ) : FrX σ0 τ := ⟨fun c a b d => (f.1 c a).trans (h.1 c a b d), fun x a b c d e g i j k => (f.2.1 x a b c d).trans (h.2.1 x a b c d e g i j k), fun c a => (f.2.2.1 c a).trans (h.2.2.1 c a), fun x a => (f.2.2.2 x a).trans (h.2.2.2 x a)⟩
def Flt (F : Option (Nat × Nat)) (σ : Hp) : Prop := match F with
  | none => σ.1 98 10 = 0 ∧ σ.1 98 11 = 0
  | some kp => σ.1 98 10 = nI kp.1 ∧ σ.1 98 11 = nI kp.2
theorem Flt.cong {F : Option (Nat × Nat)} {σ τ : Hp} (h : Flt F σ) (e1 : τ.1 98 10 = σ.1 98 10) (e2 : τ.1 98 11 = σ.1 98 11) : Flt F τ := by
  cases F with
  | none => exact ⟨e1.trans h.1, e2.trans h.2⟩
  | some kp => exact ⟨e1.trans h.1, e2.trans h.2⟩
def MOk (e : EC) : Prop := e.m ≤ 300 ∧ (∀ k, k < e.m → e.b k < 256) ∧ e.n0 < 16 ∧ TpM e.b e.m e.s0 ∧ e.s0.1 98 12 = nI e.n0 ∧ (∀ x, x < 2 ^ 31 → ∀ i, (e.fd x = some i ↔ i < e.n0 ∧ e.s0.1 102 (20 * i + 1) = nI x)) ∧ (∀ i, i < e.n0 → (e.s0.1 102 (20 * i) = 4 ↔ e.tb i = true))
def MR (e : EC) (F : Option (Nat × Nat)) (j : Nat) (P E : List Nat) (o : Nat) (σ : Hp) : Prop :=
  MTk e.b (tk e.b e.m j) σ ∧ σ.1 98 14 = nI (e.c0 + E.length) ∧ (∀ q, q < E.length → σ.1 103 (e.c0 + q) = nI (E.getD q 0)) ∧ (∀ q, q < e.c0 → σ.1 103 q = e.s0.1 103 q) ∧ σ.1 98 17 = nI P.length ∧ StP (σ.1 104) P ∧ σ.1 98 18 = nI o ∧ Flt F σ ∧ FrX e.s0 σ
theorem MOk.TB {e : EC} (k : MOk e) (j : Nat) : TB e.b (tk e.b e.m j) := tk_TB k.1 k.2.1 j
theorem MOk.tp {e : EC} (k : MOk e) {σ : Hp} (h : FrX e.s0 σ) : TpM e.b e.m σ := by
  obtain ⟨t1, t2, t3⟩ := k.2.2.2.1
  exact ⟨t1, (h.2.1 4 (by decide) (by decide) (by decide) (by decide) (by decide) (by decide) (by decide) (by decide) (by decide)).trans t2, fun k hk => by rw [h.1 101 (by decide) (by decide) (by decide)]; exact t3 k hk⟩
theorem MR.T {e : EC} {F : Option (Nat × Nat)} {j j' : Nat} {P E : List Nat} {o : Nat} {σ τ : Hp} (h : MR e F j P E o σ) (f : FrT σ τ) (c : MTk e.b (tk e.b e.m j') τ) : MR e F j' P E o τ := by
  obtain ⟨h1, h2, h3, h4, h5, h6, h7, h8, h9⟩ := h
  have f3 := f.1 103 (by decide)
  have f4 := f.1 104 (by decide)
  have g : ∀ x, x ≠ 5 → x ≠ 6 → x ≠ 7 → x ≠ 9 → τ.1 98 x = σ.1 98 x := f.2.1
  exact ⟨c, (g 14 (by decide) (by decide) (by decide) (by decide)).trans h2, fun q hq => by rw [f3]; exact h3 q hq, fun q hq => by rw [f3]; exact h4 q hq, (g 17 (by decide) (by decide) (by decide) (by decide)).trans h5, by rw [f4]; exact h6, (g 18 (by decide) (by decide) (by decide) (by decide)).trans h7, h8.cong (g 10 (by decide) (by decide) (by decide) (by decide)) (g 11 (by decide) (by decide) (by decide) (by decide)), h9.T f⟩
theorem m_av {d : Nat} {K : Po} {e : EC} (k : MOk e) {F : Option (Nat × Nat)} {j : Nat} {P E : List Nat} {o : Nat} {σ : Hp} (h : MR e F j P E o σ) (q : ∀ τ : Hp, MR e F (j + 1) P E o τ → K none τ) : CTs (d + 3) y_M_advance [.ref 98] σ K :=
  p_av (k.tp h.2.2.2.2.2.2.2.2) h.1 (fun τ f c => q τ (h.T f c))
theorem m_top {d : Nat} {K : Po} {e : EC} {F : Option (Nat × Nat)} {j : Nat} {P E : List Nat} {o : Nat} {σ : Hp} (h : MR e F j P E o σ) (hP : P.length ≤ 300) (q : K (some (.int (nI (P.headD 0)))) σ) : CTs (d + 1) y_M_top [.ref 98] σ K := by
  obtain ⟨h1, h2, h3, h4, h5, h6, h7, h8, h9⟩ := h
  refine e_M_top (t_M_top_0 ?_)
  rw [h5]
  cases P with
  | nil => exact ifp rfl q
  | cons x P =>
    have hl : (x :: P).length = P.length + 1 := rfl
    rw [hl] at hP ⊢
    refine ifn (nI_ne0 (by omega) (by omega)) ?_
    rw [nI_pred, nI_clamp (n := P.length) (by omega), h6.1]
    exact ⟨vp_in_nI (by omega) (by omega), q⟩
theorem m_emit {d : Nat} {K : Po} {e : EC} {F : Option (Nat × Nat)} {j : Nat} {P E : List Nat} {o x : Nat} {σ : Hp} (h : MR e F j P E o σ) (hr : e.c0 + E.length < 300) (q : ∀ τ : Hp, MR e F j P (E ++ [x]) o τ → K none τ) : CTs (d + 1) y_M_emit [.ref 98, .int (nI x)] σ K := by
  obtain ⟨h1, h2, h3, h4, h5, h6, h7, h8, h9⟩ := h
  refine e_M_emit (t_M_emit_0 ?_)
  rw [h2, nI_clamp (n := e.c0 + E.length) (by omega), nI_1]
  refine ⟨vp_in_nI hr (by omega), q _ ?_⟩
  have g : ∀ y, y ≠ 14 → (sI (sI σ 103 (e.c0 + E.length) (nI x)) 98 14 (nI (e.c0 + E.length + 1))).1 98 y = σ.1 98 y := fun y hy => by rw [sI_r, if_pos rfl, upd_r, if_neg hy, sI_r, if_neg (by decide)]
  have g' : ∀ c, c ≠ 98 → c ≠ 103 → (sI (sI σ 103 (e.c0 + E.length) (nI x)) 98 14 (nI (e.c0 + E.length + 1))).1 c = σ.1 c := fun c h1 h2 => by rw [sI_r, if_neg h1, sI_r, if_neg h2]
  obtain ⟨a1, a2, a3, a4, a5, a6⟩ := h1
  refine ⟨⟨(g 5 (by decide)).trans a1, (g 6 (by decide)).trans a2, (g 7 (by decide)).trans a3, a4, fun z => (g 9 (by decide)).trans (a5 z), fun z => (g 9 (by decide)).trans (a6 z)⟩, ?_, fun q hq => ?_, fun q hq => ?_, (g 17 (by decide)).trans h5, ?_, (g 18 (by decide)).trans h7, h8.cong (g 10 (by decide)) (g 11 (by decide)), fun c c1 c2 c3 => (g' c c1 c2).trans (h9.1 c c1 c2 c3), fun y y1 y2 y3 y4 y5 y6 y7 y8 y9 => (g y y7).trans (h9.2.1 y y1 y2 y3 y4 y5 y6 y7 y8 y9), h9.2.2.1, h9.2.2.2⟩
  · rw [sI_r, if_pos rfl, upd_r, if_pos rfl, List.length_append]; rfl
  · rw [sI_r, if_neg (by decide), sI_r, if_pos rfl, upd_r, getD_app hq]
    by_cases eq : q = E.length
    · rw [if_pos (by rw [eq]), if_pos eq]
    · rw [if_neg (by omega), if_neg eq]
      rw [List.length_append] at hq
      replace hq : q < E.length + 1 := hq
      exact h3 q (by omega)
  · rw [sI_r, if_neg (by decide), sI_r, if_pos rfl, upd_r, if_neg (by omega)]
    exact h4 q hq
  · rw [g' 104 (by decide) (by decide)]; exact h6
theorem m_fld {e : EC} {F : Option (Nat × Nat)} {j : Nat} {P P' E : List Nat} {o o' : Nat} {σ τ : Hp} (h : MR e F j P E o σ) (t2 : τ.2 = σ.2) (g : ∀ y, y ≠ 17 → y ≠ 18 → τ.1 98 y = σ.1 98 y) (g' : ∀ c, c ≠ 98 → c ≠ 104 → τ.1 c = σ.1 c) (e17 : τ.1 98 17 = nI P'.length) (e18 : τ.1 98 18 = nI o') (hs : StP (τ.1 104) P') : MR e F j P' E o' τ := by
  obtain ⟨h1, h2, h3, h4, h5, h6, h7, h8, h9⟩ := h
  obtain ⟨a1, a2, a3, a4, a5, a6⟩ := h1
  have g3 := g' 103 (by decide) (by decide)
  exact ⟨⟨(g 5 (by decide) (by decide)).trans a1, (g 6 (by decide) (by decide)).trans a2, (g 7 (by decide) (by decide)).trans a3, fun z => by rw [t2]; exact a4 z, fun z => (g 9 (by decide) (by decide)).trans (a5 z), fun z => (g 9 (by decide) (by decide)).trans (a6 z)⟩, (g 14 (by decide) (by decide)).trans h2, fun q hq => by rw [g3]; exact h3 q hq, fun q hq => by rw [g3]; exact h4 q hq, e17, hs, e18, h8.cong (g 10 (by decide) (by decide)) (g 11 (by decide) (by decide)), fun c c1 c2 c3 => (g' c c1 c3).trans (h9.1 c c1 c2 c3), fun y y1 y2 y3 y4 y5 y6 y7 y8 y9 => (g y y8 y9).trans (h9.2.1 y y1 y2 y3 y4 y5 y6 y7 y8 y9), by rw [t2]; exact h9.2.2.1, by rw [t2]; exact h9.2.2.2⟩
theorem m_popA {e : EC} {F : Option (Nat × Nat)} {j : Nat} {P E : List Nat} {o x : Nat} {σ : Hp} (h : MR e F j (x :: P) E o σ) : MR e F j P E o (sI σ 98 17 (σ.1 98 17 - 1)) := by
  have h5 := h.2.2.2.2.1
  refine m_fld h rfl (fun y y1 y2 => by rw [sI_r, if_pos rfl, upd_r, if_neg y1]) (fun c c1 c2 => by rw [sI_r, if_neg c1]) ?_ ?_ ?_
  · rw [sI_r, if_pos rfl, upd_r, if_pos rfl, h5]
    exact nI_pred P.length
  · rw [sI_r, if_pos rfl, upd_r, if_neg (by decide)]; exact h.2.2.2.2.2.2.1
  · rw [sI_r, if_neg (by decide)]; exact h.2.2.2.2.2.1.2
theorem m_popB {e : EC} {F : Option (Nat × Nat)} {j : Nat} {P E : List Nat} {o x : Nat} {σ : Hp} (h : MR e F j (x :: P) E (o + 1) σ) : MR e F j P E o (sI (sI σ 98 17 (σ.1 98 17 - 1)) 98 18 (σ.1 98 18 - 1)) := by
  have h5 := h.2.2.2.2.1
  refine m_fld h rfl (fun y y1 y2 => by rw [sI_r, if_pos rfl, upd_r, if_neg y2, sI_r, if_pos rfl, upd_r, if_neg y1]) (fun c c1 c2 => by rw [sI_r, if_neg c1, sI_r, if_neg c1]) ?_ ?_ ?_
  · rw [sI_r, if_pos rfl, upd_r, if_neg (by decide), sI_r, if_pos rfl, upd_r, if_pos rfl, h5]
    exact nI_pred P.length
  · rw [sI_r, if_pos rfl, upd_r, if_pos rfl, h.2.2.2.2.2.2.1]; exact nI_pred o
  · rw [sI_r, if_neg (by decide), sI_r, if_neg (by decide)]; exact h.2.2.2.2.2.1.2
theorem m_pend {d : Nat} {K : Po} {e : EC} {F : Option (Nat × Nat)} {j : Nat} {P E : List Nat} {o x : Nat} {σ : Hp} (h : MR e F j P E o σ) (hr : P.length < 300) (q : ∀ τ : Hp, MR e F j (x :: P) E o τ → K none τ) : CTs (d + 1) y_M_pend [.ref 98, .int (nI x)] σ K := by
  refine e_M_pend (t_M_pend_0 ?_)
  rw [h.2.2.2.2.1, nI_clamp (n := P.length) (by omega), nI_1]
  refine ⟨vp_in_nI hr (by omega), q _ ?_⟩
  refine m_fld h rfl (fun y y1 y2 => by rw [sI_r, if_pos rfl, upd_r, if_neg y1, sI_r, if_neg (by decide)]) (fun c c1 c2 => by rw [sI_r, if_neg c1, sI_r, if_neg c2]) ?_ ?_ ?_
  · rw [sI_r, if_pos rfl, upd_r, if_pos rfl]; rfl
  · rw [sI_r, if_pos rfl, upd_r, if_neg (by decide), sI_r, if_neg (by decide)]; exact h.2.2.2.2.2.2.1
  · rw [sI_r, if_neg (by decide), sI_r, if_pos rfl]
    exact ⟨by rw [upd_r, if_pos rfl], h.2.2.2.2.2.1.cong (fun q hq => by rw [upd_r, if_neg (by omega)])⟩
theorem m_open1 {e : EC} {F : Option (Nat × Nat)} {j : Nat} {P E : List Nat} {o : Nat} {σ : Hp} (h : MR e F j P E o σ) : MR e F j P E (o + 1) (sI σ 98 18 (σ.1 98 18 + 1)) := by
  refine m_fld h rfl (fun y y1 y2 => by rw [sI_r, if_pos rfl, upd_r, if_neg y2]) (fun c c1 c2 => by rw [sI_r, if_neg c1]) ?_ ?_ ?_
  · rw [sI_r, if_pos rfl, upd_r, if_neg (by decide)]; exact h.2.2.2.2.1
  · rw [sI_r, if_pos rfl, upd_r, if_pos rfl, h.2.2.2.2.2.2.1, nI_1]
  · rw [sI_r, if_neg (by decide)]; exact h.2.2.2.2.2.1
theorem m_good1 {d : Nat} {K : Po} {e : EC} {j : Nat} {P E : List Nat} {o : Nat} {σ : Hp} (h : MR e none j P E o σ) (q : K (some (.int 1)) σ) : CTs (d + 1) y_M_isGood [.ref 98] σ K := e_M_isGood (t_M_isGood_0 (ifp h.2.2.2.2.2.2.2.1.1 ⟨vb1, q⟩))
theorem m_good0 {d : Nat} {K : Po} {e : EC} {j f p : Nat} {P E : List Nat} {o : Nat} {σ : Hp} (h : MR e (some (f, p)) j P E o σ) (h0 : 0 < f) (h3 : f < 4) (q : K (some (.int 0)) σ) : CTs (d + 1) y_M_isGood [.ref 98] σ K := e_M_isGood (t_M_isGood_0 (ifn (by rw [h.2.2.2.2.2.2.2.1.1]; exact nI_ne0 h0 (by omega)) ⟨vb0, q⟩))
theorem m_faults {d : Nat} {K : Po} {e : EC} {j f : Nat} {P E : List Nat} {o : Nat} {σ : Hp} (h : MR e none j P E o σ) (q : ∀ τ : Hp, MR e (some (f, (tk e.b e.m j).2.1)) j P E o τ → K none τ) : CTs (d + 2) y_M_faults [.ref 98, .int (nI f)] σ K := by
  refine e_M_faults (t_M_faults_0 (m_good1 h (o1 ?_)))
  rw [h.1.2.1]
  refine q _ ?_
  obtain ⟨h1, h2, h3, h4, h5, h6, h7, h8, h9⟩ := h
  have g : ∀ y, y ≠ 10 → y ≠ 11 → (sI (sI σ 98 10 (nI f)) 98 11 (nI (tk e.b e.m j).2.1)).1 98 y = σ.1 98 y := fun y y1 y2 => by rw [sI_r, if_pos rfl, upd_r, if_neg y2, sI_r, if_pos rfl, upd_r, if_neg y1]
  have g' : ∀ c, c ≠ 98 → (sI (sI σ 98 10 (nI f)) 98 11 (nI (tk e.b e.m j).2.1)).1 c = σ.1 c := fun c c1 => by rw [sI_r, if_neg c1, sI_r, if_neg c1]
  obtain ⟨a1, a2, a3, a4, a5, a6⟩ := h1
  refine ⟨⟨(g 5 (by decide) (by decide)).trans a1, (g 6 (by decide) (by decide)).trans a2, (g 7 (by decide) (by decide)).trans a3, a4, fun z => (g 9 (by decide) (by decide)).trans (a5 z), fun z => (g 9 (by decide) (by decide)).trans (a6 z)⟩, (g 14 (by decide) (by decide)).trans h2, h3, h4, (g 17 (by decide) (by decide)).trans h5, h6, (g 18 (by decide) (by decide)).trans h7, ⟨?_, ?_⟩, fun c c1 c2 c3 => (g' c c1).trans (h9.1 c c1 c2 c3), fun y y1 y2 y3 y4 y5 y6 y7 y8 y9 => (g y y5 y6).trans (h9.2.1 y y1 y2 y3 y4 y5 y6 y7 y8 y9), h9.2.2.1, h9.2.2.2⟩
  · rw [sI_r, if_pos rfl, upd_r, if_neg (by decide), sI_r, if_pos rfl, upd_r, if_pos rfl]
  · rw [sI_r, if_pos rfl, upd_r, if_pos rfl]
