/-! ===== the reference reads things: what stands ===== -/
def FrR (σ0 σ : Hp) : Prop := (∀ c, c ≠ 98 → c ≠ 102 → c ≠ 103 → c ≠ 104 → σ.1 c = σ0.1 c) ∧ (∀ x, x ≠ 5 → x ≠ 6 → x ≠ 7 → x ≠ 9 → x ≠ 10 → x ≠ 11 → x ≠ 12 → x ≠ 14 → x ≠ 17 → x ≠ 18 → σ.1 98 x = σ0.1 98 x) ∧ (∀ c, c ≠ 98 → σ.2 c = σ0.2 c) ∧ ∀ x, x ≠ 8 → σ.2 98 x = σ0.2 98 x
theorem FrR.T {σ0 σ τ : Hp} (h : FrR σ0 σ) (f : FrT σ τ) : FrR σ0 τ := ⟨fun c a b d e => (f.1 c a).trans (h.1 c a b d e), fun x a b c d e g i j k l => (f.2.1 x a b c d).trans (h.2.1 x a b c d e g i j k l), fun c a => (f.2.2.1 c a).trans (h.2.2.1 c a), fun x a => (f.2.2.2 x a).trans (h.2.2.2 x a)⟩
theorem FrR.X {σ0 σ τ : Hp} (h : FrR σ0 σ) (f : FrX σ τ) : FrR σ0 τ := ⟨fun c a b d e => (f.1 c a d e).trans (h.1 c a b d e), fun x a b c d e g i j k l => (f.2.1 x a b c d e g j k l).trans (h.2.1 x a b c d e g i j k l), fun c a => (f.2.2.1 c a).trans (h.2.2.1 c a), fun x a => (f.2.2.2 x a).trans (h.2.2.2 x a)⟩
theorem FrR.w {σ0 σ : Hp} (h : FrR σ0 σ) {k : Nat} {v : Int32} : FrR σ0 (sI σ 102 k v) := ⟨fun c a b d e => by rw [sI_r, if_neg b]; exact h.1 c a b d e, fun x a b c d e g i j k l => by rw [sI_r, if_neg (by decide)]; exact h.2.1 x a b c d e g i j k l, h.2.2.1, h.2.2.2⟩
theorem FrR.v {σ0 σ : Hp} (h : FrR σ0 σ) {k : Nat} {v : Int32} (hk : k = 10 ∨ k = 11 ∨ k = 12 ∨ k = 17 ∨ k = 18) : FrR σ0 (sI σ 98 k v) := ⟨fun c a b d e => by rw [sI_r, if_neg a]; exact h.1 c a b d e, fun x a b c d e g i j k l => by rw [sI_r, if_pos rfl, upd_r, if_neg (by omega)]; exact h.2.1 x a b c d e g i j k l, h.2.2.1, h.2.2.2⟩
/-- behind a fault -/
def MFt (σ00 : Hp) (k p : Nat) (σ : Hp) : Prop := FrR σ00 σ ∧ σ.1 98 10 = nI k ∧ σ.1 98 11 = nI p ∧ 0 < k ∧ k < 4
theorem MFt.n {σ00 σ : Hp} {k p : Nat} (h : MFt σ00 k p σ) : ¬ σ.1 98 10 = 0 := by rw [h.2.1]; exact nI_ne0 h.2.2.2.1 (by have := h.2.2.2.2; omega)
theorem MFt.w {σ00 σ : Hp} {k p : Nat} (h : MFt σ00 k p σ) {x : Nat} {v : Int32} : MFt σ00 k p (sI σ 102 x v) := ⟨h.1.w, by rw [sI_r, if_neg (by decide)]; exact h.2.1, by rw [sI_r, if_neg (by decide)]; exact h.2.2.1, h.2.2.2⟩
theorem MFt.v {σ00 σ : Hp} {k p : Nat} (h : MFt σ00 k p σ) {x : Nat} {v : Int32} (hx : x = 12 ∨ x = 17 ∨ x = 18) : MFt σ00 k p (sI σ 98 x v) := ⟨h.1.v (by omega), by rw [sI_r, if_pos rfl, upd_r, if_neg (by omega)]; exact h.2.1, by rw [sI_r, if_pos rfl, upd_r, if_neg (by omega)]; exact h.2.2.1, h.2.2.2⟩
theorem fWantE {d : Nat} {K : Po} {σ00 σ : Hp} {k p : Nat} (h : MFt σ00 k p σ) (q : ∀ τ : Hp, MFt σ00 k p τ → K none τ) : CTs (d + 2) y_M_wantE [.ref 98] σ K := by
  have h2 := (h.v (x := 17) (v := 0) (Or.inr (Or.inl rfl))).v (x := 18) (v := 0) (Or.inr (Or.inr rfl))
  exact e_M_wantE (t_M_wantE_0 (t_M_wantE_14 (rGood0 h2.n (o0 (q _ h2)))))
theorem fCorners {d : Nat} {K : Po} {σ00 σ : Hp} {k p : Nat} {a : Int32} (h : MFt σ00 k p σ) (q : K none σ) : CTs (d + 2) y_M_wantCorners [.ref 98, .int a] σ K := e_M_wantCorners (t_M_wantCorners_0 (t_M_wantCorners_4 (rGood0 h.n (o0 q))))
theorem fEnd {d : Nat} {K : Po} {σ00 σ : Hp} {k p : Nat} (h : MFt σ00 k p σ) (q : K (some (.int (-9))) σ) : CTs (d + 2) y_M_wantEnd [.ref 98] σ K := e_M_wantEnd (t_M_wantEnd_0 (rGood0 h.n (o0 q)))
theorem ix20 {n w : Nat} (hn : n < 16) (hw : w < 20) : vp_in (nI (20 * n) + nI w) 320 ∧ (nI (20 * n) + nI w).toNatClampNeg = 20 * n + w := by
  rw [nI_add]
  exact ⟨vp_in_nI (by omega) (by omega), nI_clamp (by omega)⟩
theorem f197 {Q : Po} {σ00 σ : Hp} {k p n : Nat} {v1 : Int32} (hn : n < 16) (h : MFt σ00 k p σ) (q : ∀ τ : Hp, MFt σ00 k p τ → Q none τ) : WP c_M_wantThing (CTs 10) Q (197, [(0, .ref 98), (1, .int v1), (2, .int (nI (20 * n)))], []) σ := by
  have v6 := (ix20 (n := n) (w := 6) hn (by decide)).1
  have v3 := (ix20 (n := n) (w := 3) hn (by decide)).1
  have v7 := (ix20 (n := n) (w := 7) hn (by decide)).1
  have tail : ∀ τ : Hp, MFt σ00 k p τ → CTs 10 y_M_wantMark [.ref 98, .int 59] τ (fun _ σ3 => Q none (sI σ3 98 12 ((σ3.1 98 12) + 1))) := fun τ h2 => rMark0 h2.n (q _ (h2.v (Or.inl rfl)))
  refine t_M_wantThing_197 (rMark0 h.n ⟨v6, ite2 (fun _ => ?_) (fun _ => ite2 (fun _ => ?_) (fun _ => ite2 (fun _ => ?_) (fun _ => ite2 (fun _ => ?_) (fun _ => ?_))))⟩)
  · exact rNum0 h.w.n ⟨v3, v7, tail _ h.w.w.w⟩
  · exact rNum0 h.w.n ⟨v3, v7, tail _ h.w.w.w⟩
  · exact fCorners h.w ⟨v7, tail _ h.w.w⟩
  · exact rNum0 h.w.n ⟨v3, rWord0 h.w.w.n (fWantE h.w.w (fun τ h2 => ⟨v7, tail _ h2.w⟩))⟩
  · exact fWantE h.w (fun τ h2 => ⟨v7, tail _ h2.w⟩)
/-- all is well so far -/
def MG (b : Nat → Nat) (m : Nat) (σ00 : Hp) (j : Nat) (σ : Hp) : Prop := FrR σ00 σ ∧ TpM b m σ ∧ σ.1 98 10 = 0 ∧ σ.1 98 11 = 0 ∧ MTk b (tk b m j) σ
def RowM (r : RcT) (i : Nat) (σ : Hp) : Prop :=
  σ.1 102 (20 * i) = nI r.kd ∧ σ.1 102 (20 * i + 1) = nI r.nm ∧ σ.1 102 (20 * i + 2) = nI r.lg ∧ (r.kd ≠ 4 → σ.1 102 (20 * i + 3) = nI r.fi) ∧ σ.1 102 (20 * i + 4) = eI r.fr ∧ σ.1 102 (20 * i + 5) = eI r.to ∧ σ.1 102 (20 * i + 6) = nI r.c ∧ σ.1 102 (20 * i + 7) = nI (r.c + r.s.length) ∧ (r.kd = 4 → σ.1 102 (20 * i + 3) = nI r.cs.length ∧ ∀ k, k < r.cs.length → σ.1 102 (20 * i + 8 + 2 * k) = nI (r.cs.getD k (0, 0)).1 ∧ σ.1 102 (20 * i + 9 + 2 * k) = nI (r.cs.getD k (0, 0)).2) ∧ ∀ q, q < r.s.length → σ.1 103 (r.c + q) = nI (r.s.getD q 0)
def MLs (ρ : Rho) (n c : Nat) (s : List Nat) (σ : Hp) : Prop := σ.1 98 12 = nI n ∧ σ.1 98 14 = nI (c + s.length) ∧ (∀ i, i < n → RowM (ρ i) i σ) ∧ ∀ q, q < s.length → σ.1 103 (c + q) = nI (s.getD q 0)
def MN (b : Nat → Nat) (m : Nat) (σ00 : Hp) (ρ : Rho) (n c j : Nat) (s : List Nat) (R : Nat → Int32) (σ : Hp) : Prop := MG b m σ00 j σ ∧ MLs ρ n c s σ ∧ ∀ w, w < 20 → σ.1 102 (20 * n + w) = R w
theorem RowM.cong {r : RcT} {i : Nat} {σ τ : Hp} (h : RowM r i σ) (hc : r.kd = 4 → r.cs.length ≤ 6) (ha : ∀ x, 20 * i ≤ x → x < 20 * i + 20 → τ.1 102 x = σ.1 102 x) (h3 : ∀ q, q < r.s.length → τ.1 103 (r.c + q) = σ.1 103 (r.c + q)) : RowM r i τ := by
  obtain ⟨a1, a2, a3, a4, a5, a6, a7, a8, a9, a10⟩ := h
  refine ⟨(ha _ (by omega) (by omega)).trans a1, (ha _ (by omega) (by omega)).trans a2, (ha _ (by omega) (by omega)).trans a3, fun z => (ha _ (by omega) (by omega)).trans (a4 z), (ha _ (by omega) (by omega)).trans a5, (ha _ (by omega) (by omega)).trans a6, (ha _ (by omega) (by omega)).trans a7, (ha _ (by omega) (by omega)).trans a8, fun z => ⟨(ha _ (by omega) (by omega)).trans (a9 z).1, fun k hk => ?_⟩, fun q hq => (h3 q hq).trans (a10 q hq)⟩
  have := hc z
  exact ⟨(ha _ (by omega) (by omega)).trans ((a9 z).2 k hk).1, (ha _ (by omega) (by omega)).trans ((a9 z).2 k hk).2⟩
theorem MG.T {b : Nat → Nat} {m : Nat} {σ00 : Hp} {j j' : Nat} {σ τ : Hp} (h : MG b m σ00 j σ) (f : FrT σ τ) (c : MTk b (tk b m j') τ) : MG b m σ00 j' τ := ⟨h.1.T f, h.2.1.fr f, (f.2.1 10 (by decide) (by decide) (by decide) (by decide)).trans h.2.2.1, (f.2.1 11 (by decide) (by decide) (by decide) (by decide)).trans h.2.2.2.1, c⟩
theorem MN.T {b : Nat → Nat} {m : Nat} {σ00 : Hp} {ρ : Rho} {n c j j' : Nat} {s : List Nat} {R : Nat → Int32} {σ τ : Hp} (h : MN b m σ00 ρ n c j s R σ) (f : FrT σ τ) (k : MTk b (tk b m j') τ) : MN b m σ00 ρ n c j' s R τ := by
  obtain ⟨g, ⟨l1, l2, l3, l4⟩, r⟩ := h
  have f2 := f.1 102 (by decide)
  have f3 := f.1 103 (by decide)
  refine ⟨g.T f k, ⟨(f.2.1 12 (by decide) (by decide) (by decide) (by decide)).trans l1, (f.2.1 14 (by decide) (by decide) (by decide) (by decide)).trans l2, fun i hi => ?_, fun q hq => by rw [f3]; exact l4 q hq⟩, fun w hw => by rw [f2]; exact r w hw⟩
  have := l3 i hi
  unfold RowM at this ⊢
  rw [f2, f3]
  exact this
theorem MN.w {b : Nat → Nat} {m : Nat} {σ00 : Hp} {ρ : Rho} {n c j : Nat} {s : List Nat} {R : Nat → Int32} {σ : Hp} (hc6 : ∀ i, i < n → (ρ i).kd = 4 → (ρ i).cs.length ≤ 6) (h : MN b m σ00 ρ n c j s R σ) {w : Nat} {v : Int32} (hw : w < 20) : MN b m σ00 ρ n c j s (upd R w v) (sI σ 102 (20 * n + w) v) := by
  obtain ⟨⟨g1, ⟨t1, t2, t3⟩, g3, g4, g5⟩, ⟨l1, l2, l3, l4⟩, r⟩ := h
  have off : ∀ a, a ≠ 102 → (sI σ 102 (20 * n + w) v).1 a = σ.1 a := fun a ha => by rw [sI_r, if_neg ha]
  have o98 := off 98 (by decide)
  refine ⟨⟨g1.w, ⟨t1, by rw [o98]; exact t2, by rw [off 101 (by decide)]; exact t3⟩, by rw [o98]; exact g3, by rw [o98]; exact g4, ?_⟩, ⟨by rw [o98]; exact l1, by rw [o98]; exact l2, fun i hi => (l3 i hi).cong (hc6 i hi) (fun x x1 x2 => by rw [sI_r, if_pos rfl, upd_r, if_neg (by omega)]) (fun q _ => by rw [off 103 (by decide)]), fun q hq => by rw [off 103 (by decide)]; exact l4 q hq⟩, fun w' hw' => ?_⟩
  · unfold MTk
    rw [o98]
    exact g5
  · rw [sI_r, if_pos rfl, upd_r, upd_r]
    by_cases e : w' = w
    · rw [if_pos (by omega), if_pos e]
    · rw [if_neg (by omega), if_neg e]
      exact r w' hw'
theorem MG.f {b : Nat → Nat} {m : Nat} {σ00 : Hp} {j : Nat} {σ : Hp} (h : MG b m σ00 j σ) {k : Nat} (hk : 0 < k) (h4 : k < 4) : MFt σ00 k (tk b m j).2.1 (fltS (tk b m j) k σ) := by
  unfold fltS
  refine ⟨(h.1.v (Or.inl rfl)).v (Or.inr (Or.inl rfl)), ?_, ?_, hk, h4⟩
  · rw [sI_r, if_pos rfl, upd_r, if_neg (by decide), sI_r, if_pos rfl, upd_r, if_pos rfl]
  · rw [sI_r, if_pos rfl, upd_r, if_pos rfl]
theorem p_mEnd {K : Po} {b : Nat → Nat} {m : Nat} {σ00 : Hp} {ρ : Rho} {n c j : Nat} {s : List Nat} {R : Nat → Int32} {σ : Hp} (tbj : TB b (tk b m j)) (hn : n < 16) (hk6 : ∀ i, i < n → (ρ i).kd ≤ 6) (hu : ∀ x, x < 2 ^ 31 → ∀ i, (fdR ρ n x = some i ↔ i < n ∧ nI (ρ i).nm = nI x)) (h : MN b m σ00 ρ n c j s R σ)
    (q1 : ∀ e, pEnd b m ρ n j = .ok e → ∀ τ : Hp, MN b m σ00 ρ n c (j + 1) s R τ → K (some (.int (eI e))) τ)
    (q0 : ∀ k jf, pEnd b m ρ n j = .error (k, jf) → ∀ (v : Int32) (τ : Hp), MFt σ00 k (tk b m jf).2.1 τ → K (some (.int v)) τ) : CTs 10 y_M_wantEnd [.ref 98] σ K := by
  obtain ⟨g, l, r⟩ := id h
  have hg := g.2.2.1
  have mt := g.2.2.2.2
  refine e_M_wantEnd (t_M_wantEnd_0 (rGood1 hg (o1 (q_wd (c := 11522) tbj mt (by decide) (fun hK => o1 ?_) (fun hK => o0 ?_)))))
  · exact p_av g.2.1 mt (fun τ f k => q1 none (if_pos hK) τ (h.T f k))
  · refine q_mNm tbj mt (fun hN => o1 ?_) (fun hN => o0 (q_mNm tbj mt (fun z => absurd z hN) (fun _ => o0 (rFaults (k := 1) hg mt (q0 1 j ((if_neg hK).trans (if_neg hN)) _ _ (g.f (by decide) (by decide)))))))
    have hp : pEnd b m ρ n j = (match fdR ρ n (wv b (tk b m j)) with
      | none => .error (2, j)
      | some i => if (ρ i).kd = 1 then .ok (some i) else .error (3, j)) := (if_neg hK).trans (if_pos hN)
    have hwv : wv b (tk b m j) < 2 ^ 31 := by
      have := (tbj.2.2.2.1 hN.1).1
      have h27 : (27 : Nat) ^ 6 < 2 ^ 31 := by decide
      omega
    have hw : σ.2 98 8 = lN (wv b (tk b m j)) := by
      rw [mt.2.2.2.1 hN.1, if_pos (by have := hN.2.1; omega)]
    refine p_mknown (fdR ρ n (wv b (tk b m j))) l.1 (by omega) hw (fun i => (hu _ hwv i).trans ?_) (fun hf => ?_) (fun i hi hf => ?_) hwv
    · constructor
      · intro z; exact ⟨z.1, (l.2.2.1 i z.1).2.1.trans z.2⟩
      · intro z; exact ⟨z.1, (l.2.2.1 i z.1).2.1.symm.trans z.2⟩
    · exact q_mNm tbj mt (fun _ => o1 (ifn (by decide) (rFaults (k := 2) hg mt (q0 2 j (by rw [hp, hf]) _ _ (g.f (by decide) (by decide)))))) (fun z => absurd hN z)
    · refine q_mNm tbj mt (fun _ => o1 (ifp (nI_pos' (n := i) (by omega)) ?_)) (fun z => absurd hN z)
      obtain ⟨v1, v2⟩ := ix_20 (j := i) (by omega)
      refine ⟨v1, ?_⟩
      show if σ.1 102 ((20 : Int32) * nI i).toNatClampNeg = 1 then _ else _
      rw [v2, (l.2.2.1 i hi).1]
      have hki := hk6 i hi
      rw [hf] at hp
      by_cases h1 : (ρ i).kd = 1
      · exact ifp (by rw [h1]; rfl) (p_av g.2.1 mt (fun τ f k => q1 (some i) (hp.trans (if_pos h1)) τ (h.T f k)))
      · exact ifn (fun z => h1 ((nI_eq (b := 1) (by omega) (by omega)).mp z)) (rFaults (k := 3) hg mt (q0 3 j (hp.trans (if_neg h1)) _ _ (g.f (by decide) (by decide))))
