/-! ===== the class reads things: what stands ===== -/
def eI (e : Option Nat) : Int32 := match e with
  | none => -9
  | some i => nI i
def mvI (r : RcT) : Int32 := if r.kd = 3 then mvE (eI r.fr) ||| mvE (eI r.to) else 0
def mvR (ρ : Rho) (i : Nat) : Nat → Int32
  | 0 => mvI (ρ i)
  | b + 1 => if 100000 + i ∈ (ρ b).s ∨ 200000 + i ∈ (ρ b).s then mvR ρ i b ||| (1 <<< nI b) else mvR ρ i b
def mvS (ρ : Rho) (i n : Nat) (s : List Nat) : Int32 := if 100000 + i ∈ s ∨ 200000 + i ∈ s then mvR ρ i n ||| (1 <<< nI n) else mvR ρ i n
def RowC (r : RcT) (i : Nat) (mv : Int32) (σ : Hp) : Prop :=
  σ.1 18 i = nI r.kd ∧ σ.1 19 i = nI r.nm ∧ (r.kd ≠ 4 → σ.1 20 i = nI r.fi) ∧ σ.1 21 i = eI r.fr ∧ σ.1 22 i = eI r.to ∧ σ.1 23 i = nI r.c ∧ σ.1 24 i = nI (r.c + r.s.length) ∧ σ.1 25 i = mv ∧ (r.kd = 4 → σ.1 26 i = nI r.cs.length ∧ ∀ k, k < r.cs.length → σ.1 27 (6 * i + k) = nI (r.cs.getD k (0, 0)).1 ∧ σ.1 28 (6 * i + k) = nI (r.cs.getD k (0, 0)).2) ∧ ∀ q, q < r.s.length → σ.1 29 (r.c + q) = nI (cwN (r.s.getD q 0))
def CLs (ρ : Rho) (n c : Nat) (s : List Nat) (σ : Hp) : Prop := σ.1 17 0 = nI n ∧ σ.1 17 1 = nI (c + s.length) ∧ (∀ i, i < n → RowC (ρ i) i (mvS ρ i n s) σ) ∧ ∀ q, q < s.length → σ.1 29 (c + q) = nI (cwN (s.getD q 0))
theorem RowC.cong {r : RcT} {i : Nat} {mv mv' : Int32} {σ τ : Hp} (h : RowC r i mv σ) (ha : ∀ a, 18 ≤ a → a ≤ 24 → τ.1 a i = σ.1 a i) (h25 : τ.1 25 i = mv') (h26 : τ.1 26 i = σ.1 26 i) (h27 : r.kd = 4 → ∀ k, k < r.cs.length → τ.1 27 (6 * i + k) = σ.1 27 (6 * i + k) ∧ τ.1 28 (6 * i + k) = σ.1 28 (6 * i + k)) (h29 : ∀ q, q < r.s.length → τ.1 29 (r.c + q) = σ.1 29 (r.c + q)) : RowC r i mv' τ := by
  obtain ⟨a1, a2, a3, a4, a5, a6, a7, a8, a9, a10⟩ := h
  refine ⟨(ha 18 (by omega) (by omega)).trans a1, (ha 19 (by omega) (by omega)).trans a2, fun z => (ha 20 (by omega) (by omega)).trans (a3 z), (ha 21 (by omega) (by omega)).trans a4, (ha 22 (by omega) (by omega)).trans a5, (ha 23 (by omega) (by omega)).trans a6, (ha 24 (by omega) (by omega)).trans a7, h25, fun z => ⟨h26.trans (a9 z).1, fun k hk => ⟨((h27 z k hk).1).trans ((a9 z).2 k hk).1, ((h27 z k hk).2).trans ((a9 z).2 k hk).2⟩⟩, fun q hq => (h29 q hq).trans (a10 q hq)⟩
def GS (b : Nat → Nat) (m : Nat) (σ00 : Hp) (j : Nat) (σ : Hp) : Prop := FrF σ00 σ ∧ TpC b m σ ∧ σ.1 1 2 = 0 ∧ σ.1 1 3 = 0 ∧ CTk b (tk b m j) σ
def CBt (b : Nat → Nat) (m : Nat) (σ00 : Hp) (ρ : Rho) (n c j : Nat) (σ : Hp) : Prop := GS b m σ00 j σ ∧ CLs ρ n c [] σ
def CN (b : Nat → Nat) (m : Nat) (σ00 : Hp) (ρ : Rho) (n c j : Nat) (s : List Nat) (cs : List (Nat × Nat)) (R : Nat → Int32) (σ : Hp) : Prop := GS b m σ00 j σ ∧ CLs ρ n c s σ ∧ (∀ a, 18 ≤ a → a ≤ 26 → σ.1 a n = R a) ∧ ∀ k, k < cs.length → σ.1 27 (6 * n + k) = nI (cs.getD k (0, 0)).1 ∧ σ.1 28 (6 * n + k) = nI (cs.getD k (0, 0)).2
def FtC (b : Nat → Nat) (m : Nat) (σ00 : Hp) (k jf : Nat) (σ : Hp) : Prop := FrF σ00 σ ∧ σ.1 1 2 = nI k ∧ σ.1 1 3 = nI (tk b m jf).2.1
theorem FrF.S {σ0 σ τ : Hp} (h : FrF σ0 σ) (f : FrS σ τ) : FrF σ0 τ := ⟨f.1.trans h.1, fun a a1 a2 => (f.2.1 a a1).trans (h.2.1 a a1 a2), fun x x2 x3 x5 x6 x7 x8 x9 => (f.2.2 x x5 x6 x7 x8 x9).trans (h.2.2 x x2 x3 x5 x6 x7 x8 x9)⟩
theorem FrF.w {σ0 σ : Hp} (h : FrF σ0 σ) {a k : Nat} {v : Int32} (h1 : 17 ≤ a) (h2 : a ≤ 30) : FrF σ0 (sI σ a k v) := ⟨h.1, fun c c1 c2 => by rw [sI_r, if_neg (by omega)]; exact h.2.1 c c1 c2, fun x x2 x3 x5 x6 x7 x8 x9 => by rw [sI_r, if_neg (by omega)]; exact h.2.2 x x2 x3 x5 x6 x7 x8 x9⟩
theorem GS.S {b : Nat → Nat} {m : Nat} {σ00 : Hp} {j j' : Nat} {σ τ : Hp} (h : GS b m σ00 j σ) (f : FrS σ τ) (c : CTk b (tk b m j') τ) : GS b m σ00 j' τ := ⟨h.1.S f, h.2.1.fr f, (f.2.2 2 (by decide) (by decide) (by decide) (by decide) (by decide)).trans h.2.2.1, (f.2.2 3 (by decide) (by decide) (by decide) (by decide) (by decide)).trans h.2.2.2.1, c⟩
theorem GS.w {b : Nat → Nat} {m : Nat} {σ00 : Hp} {j : Nat} {σ : Hp} (h : GS b m σ00 j σ) {a k : Nat} {v : Int32} (h1 : 17 ≤ a) (h2 : a ≤ 30) : GS b m σ00 j (sI σ a k v) := by
  have e1 : (sI σ a k v).1 1 = σ.1 1 := by rw [sI_r, if_neg (by omega)]
  have e2 : (sI σ a k v).1 2 = σ.1 2 := by rw [sI_r, if_neg (by omega)]
  obtain ⟨g1, ⟨t1, t2, t3⟩, g3, g4, c⟩ := h
  refine ⟨g1.w h1 h2, ⟨t1, by rw [e1]; exact t2, by rw [e2]; exact t3⟩, by rw [e1]; exact g3, by rw [e1]; exact g4, ?_⟩
  unfold CTk
  rw [e1]
  exact c
theorem GS.f {b : Nat → Nat} {m : Nat} {σ00 : Hp} {j : Nat} {σ : Hp} (h : GS b m σ00 j σ) (k : Nat) : FtC b m σ00 k j (wrg b (tk b m j) k σ) := by
  unfold wrg
  refine ⟨⟨h.1.1, fun a a1 a2 => ?_, fun x x2 x3 x5 x6 x7 x8 x9 => ?_⟩, ?_, ?_⟩
  · rw [sI_r, if_neg a1, sI_r, if_neg a1]; exact h.1.2.1 a a1 a2
  · rw [sI_r, if_pos rfl, upd_r, if_neg x3, sI_r, if_pos rfl, upd_r, if_neg x2]; exact h.1.2.2 x x2 x3 x5 x6 x7 x8 x9
  · rw [sI_r, if_pos rfl, upd_r, if_neg (by decide), sI_r, if_pos rfl, upd_r, if_pos rfl]
  · rw [sI_r, if_pos rfl, upd_r, if_pos rfl]
theorem CLs.S {ρ : Rho} {n c : Nat} {s : List Nat} {σ τ : Hp} (h : CLs ρ n c s σ) (f : ∀ a, 17 ≤ a → a ≤ 29 → τ.1 a = σ.1 a) : CLs ρ n c s τ := by
  obtain ⟨h1, h2, h3, h4⟩ := h
  refine ⟨by rw [f 17 (by omega) (by omega)]; exact h1, by rw [f 17 (by omega) (by omega)]; exact h2, fun i hi => (h3 i hi).cong (fun a a1 a2 => by rw [f a (by omega) (by omega)]) ?_ (by rw [f 26 (by omega) (by omega)]) (fun _ k _ => ⟨by rw [f 27 (by omega) (by omega)], by rw [f 28 (by omega) (by omega)]⟩) (fun q _ => by rw [f 29 (by omega) (by omega)]), fun q hq => by rw [f 29 (by omega) (by omega)]; exact h4 q hq⟩
  rw [f 25 (by omega) (by omega)]
  exact (h3 i hi).2.2.2.2.2.2.2.1
theorem FrS.a {σ τ : Hp} (f : FrS σ τ) : ∀ a, 17 ≤ a → a ≤ 29 → τ.1 a = σ.1 a := fun a h _ => f.2.1 a (by omega)
theorem CN.S {b : Nat → Nat} {m : Nat} {σ00 : Hp} {ρ : Rho} {n c j j' : Nat} {s : List Nat} {cs : List (Nat × Nat)} {R : Nat → Int32} {σ τ : Hp} (h : CN b m σ00 ρ n c j s cs R σ) (f : FrS σ τ) (k : CTk b (tk b m j') τ) : CN b m σ00 ρ n c j' s cs R τ := ⟨h.1.S f k, h.2.1.S f.a, fun a a1 a2 => by rw [f.2.1 a (by omega)]; exact h.2.2.1 a a1 a2, fun q hq => by rw [f.2.1 27 (by decide), f.2.1 28 (by decide)]; exact h.2.2.2 q hq⟩
theorem CN.w {b : Nat → Nat} {m : Nat} {σ00 : Hp} {ρ : Rho} {n c j : Nat} {s : List Nat} {cs : List (Nat × Nat)} {R : Nat → Int32} {σ : Hp} (h : CN b m σ00 ρ n c j s cs R σ) {q : Nat} {v : Int32} (h1 : 18 ≤ q) (h2 : q ≤ 26) : CN b m σ00 ρ n c j s cs (upd R q v) (sI σ q n v) := by
  obtain ⟨g, ⟨l1, l2, l3, l4⟩, r, k⟩ := h
  have row : ∀ a i, i ≠ n → (sI σ q n v).1 a i = σ.1 a i := fun a i hi => by
    rw [sI_r]
    split
    · rename_i e; rw [upd_r, if_neg hi, e]
    · rfl
  have off : ∀ a, a ≠ q → (sI σ q n v).1 a = σ.1 a := fun a ha => by rw [sI_r, if_neg ha]
  refine ⟨g.w (by omega) (by omega), ⟨by rw [off 17 (by omega)]; exact l1, by rw [off 17 (by omega)]; exact l2, fun i hi => (l3 i hi).cong (fun a _ _ => row a i (by omega)) ((row 25 i (by omega)).trans (l3 i hi).2.2.2.2.2.2.2.1) (row 26 i (by omega)) (fun _ k _ => ⟨by rw [off 27 (by omega)], by rw [off 28 (by omega)]⟩) (fun q _ => by rw [off 29 (by omega)]), fun q hq => by rw [off 29 (by omega)]; exact l4 q hq⟩, fun a a1 a2 => ?_, fun q hq => by rw [off 27 (by omega), off 28 (by omega)]; exact k q hq⟩
  rw [upd_r]
  by_cases e : a = q
  · rw [if_pos e, e, sI_r, if_pos rfl, upd_r, if_pos rfl]
  · rw [if_neg e, off a e]
    exact r a a1 a2
/-- of the row of the thing that is written -/
def RN (kd nm fi : Nat) (fr to : Option Nat) (c k : Nat) (R : Nat → Int32) : Prop := R 18 = nI kd ∧ R 19 = nI nm ∧ R 20 = nI fi ∧ R 21 = eI fr ∧ R 22 = eI to ∧ R 23 = nI c ∧ R 25 = 0 ∧ R 26 = nI k
theorem p_newN {d : Nat} {K : Po} {b : Nat → Nat} {m : Nat} {σ00 : Hp} {ρ : Rho} {n c j kd : Nat} {σ : Hp} (tbj : TB b (tk b m j)) (hn : n < 16) (h : CBt b m σ00 ρ n c j σ)
    (q1 : isNm b (tk b m j) → fdR ρ n (wv b (tk b m j)) = none → ∀ (R : Nat → Int32) (τ : Hp), RN kd (wv b (tk b m j)) 0 none none c 0 R → CN b m σ00 ρ n c (j + 1) [] [] R τ → K (some (.int 1)) τ)
    (f1 : ¬ isNm b (tk b m j) → ∀ τ : Hp, FtC b m σ00 1 j τ → K (some (.int 0)) τ)
    (f2 : ∀ i, isNm b (tk b m j) → fdR ρ n (wv b (tk b m j)) = some i → ∀ τ : Hp, FtC b m σ00 2 j τ → K (some (.int 0)) τ) : CTs (d + 3) y_Sc_newName [.ref 1, .int (nI kd)] σ K := by
  obtain ⟨g, l⟩ := h
  have ct := g.2.2.2.2
  refine e_Sc_newName (t_Sc_newName_0 (q_isNm tbj ct (fun hN => o1 ?_) (fun hN => o0 (p_wrong (k := 1) ct ⟨vb0, f1 hN _ (g.f 1)⟩))))
  rw [(ct.2.2.2.1 hN.1).2]
  have hfd : fnd (σ.1 19) (nI (wv b (tk b m j))) n 0 = fdR ρ n (wv b (tk b m j)) := fnd_cong n 0 (fun t _ ht => (l.2.2.1 t (by omega)).2.1)
  refine p_find (Or.inr rfl) l.1 (by omega) (fun hf => ?_) (fun i hi hf => ?_)
  · replace hf : fnd (σ.1 19) (nI (wv b (tk b m j))) n 0 = none := hf
    rw [hfd] at hf
    refine ifp (by decide) (e_Tx_open rfl (t_Tx_open_0 rfl ?_))
    have hv : vp_in (nI n) 16 := vp_in_nI hn (by omega)
    have h0 : CN b m σ00 ρ n c j [] [] (fun a => σ.1 a n) σ := ⟨g, l, fun a _ _ => rfl, fun k hk => absurd hk (Nat.not_lt_zero _)⟩
    rw [l.1, (ct.2.2.2.1 hN.1).2, l.2.1, nI_clamp (n := n) (by omega)]
    refine ⟨hv, hv, hv, hv, hv, hv, hv, hv, hv, ?_⟩
    have h9 := ((((((((h0.w (q := 18) (v := nI kd) (by decide) (by decide)).w (q := 19) (v := nI (wv b (tk b m j))) (by decide) (by decide)).w (q := 20) (v := 0) (by decide) (by decide)).w (q := 21) (v := -9) (by decide) (by decide)).w (q := 22) (v := -9) (by decide) (by decide)).w (q := 23) (v := nI (c + ([] : List Nat).length)) (by decide) (by decide)).w (q := 24) (v := nI (c + ([] : List Nat).length)) (by decide) (by decide)).w (q := 25) (v := 0) (by decide) (by decide)).w (q := 26) (v := 0) (by decide) (by decide)
    refine p_nx h9.1.2.1 h9.1.2.2.2.2 (fun τ f k => ⟨vb1, q1 hN hf _ τ ?_ (h9.S f k)⟩)
    refine ⟨?_, ?_, ?_, ?_, ?_, ?_, ?_, ?_⟩
    all_goals simp only [upd_r]
    all_goals rfl
  · replace hf : fnd (σ.1 19) (nI (wv b (tk b m j))) n 0 = some i := hf
    rw [hfd] at hf
    exact ifn (nI_pos (n := i) (by omega)) (p_wrong (k := 2) ct ⟨vb0, f2 i hN hf _ (g.f 2)⟩)
