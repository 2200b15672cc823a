/-! ===== the class reads an E: what stands, what a fault leaves ===== -/
theorem q_isS {d : Nat} {K : Po} {σ : Hp} {b : Nat → Nat} {t : Tok} {c : Nat} (tb : TB b t) (ct : CTk b t σ) (hc : c < 2 ^ 31) (h1 : isS b t c → K (some (.int 1)) σ) (h0 : ¬ isS b t c → K (some (.int 0)) σ) : CTs (d + 1) y_Sc_isSign [.ref 1, .int (nI c)] σ K := p_isSign tb ct hc (by
  by_cases h : isS b t c
  · rw [if_pos h]; exact h1 h
  · rw [if_neg h]; exact h0 h)
theorem q_isK {d : Nat} {K : Po} {σ : Hp} {b : Nat → Nat} {t : Tok} {c : Nat} (tb : TB b t) (ct : CTk b t σ) (hc : c < 2 ^ 31) (h1 : isK b t c → K (some (.int 1)) σ) (h0 : ¬ isK b t c → K (some (.int 0)) σ) : CTs (d + 1) y_Sc_isKey [.ref 1, .int (nI c)] σ K := p_isKey tb ct hc (by
  by_cases h : isK b t c
  · rw [if_pos h]; exact h1 h
  · rw [if_neg h]; exact h0 h)
theorem q_isNm {d : Nat} {K : Po} {σ : Hp} {b : Nat → Nat} {t : Tok} (tb : TB b t) (ct : CTk b t σ) (h1 : isNm b t → K (some (.int 1)) σ) (h0 : ¬ isNm b t → K (some (.int 0)) σ) : CTs (d + 1) y_Sc_isName [.ref 1] σ K := p_isName tb ct (by
  by_cases h : isNm b t
  · rw [if_pos h]; exact h1 h
  · rw [if_neg h]; exact h0 h)
theorem q_isN {d : Nat} {K : Po} {σ : Hp} {b : Nat → Nat} {t : Tok} {lo hi : Nat} (tb : TB b t) (ct : CTk b t σ) (hlo : lo < 2 ^ 31) (hhi : hi < 2 ^ 31) (h1 : isNu b t lo hi → K (some (.int 1)) σ) (h0 : ¬ isNu b t lo hi → K (some (.int 0)) σ) : CTs (d + 1) y_Sc_isN [.ref 1, .int (nI lo), .int (nI hi)] σ K := p_isN tb ct hlo hhi (by
  by_cases h : isNu b t lo hi
  · rw [if_pos h]; exact h1 h
  · rw [if_neg h]; exact h0 h)
def wrg (b : Nat → Nat) (t : Tok) (k : Nat) (σ : Hp) : Hp := sI (sI σ 1 2 (nI k)) 1 3 (nI t.2.1)
theorem p_wrong {d : Nat} {K : Po} {σ : Hp} {b : Nat → Nat} {t : Tok} {k : Nat} (ct : CTk b t σ) (q : K (some (.int 0)) (wrg b t k σ)) : CTs (d + 1) y_Sc_wrong [.ref 1, .int (nI k)] σ K := by
  refine e_Sc_wrong (t_Sc_wrong_0 ⟨vb0, ?_⟩)
  rw [ct.2.2.1]
  exact q
theorem p_skipSign {d : Nat} {K : Po} {σ : Hp} {b : Nat → Nat} {m j c : Nat} (tb : TB b (tk b m j)) (tp : TpC b m σ) (ct : CTk b (tk b m j) σ) (hc : c < 2 ^ 31) (h1 : isS b (tk b m j) c → ∀ τ : Hp, FrS σ τ → CTk b (tk b m (j + 1)) τ → K (some (.int 1)) τ) (h0 : ¬ isS b (tk b m j) c → K (some (.int 0)) (wrg b (tk b m j) 1 σ)) : CTs (d + 3) y_Sc_skipSign [.ref 1, .int (nI c)] σ K := by
  refine e_Sc_skipSign (t_Sc_skipSign_0 (q_isS tb ct hc (fun h => o1 ?_) (fun h => o0 ?_)))
  · exact p_nx tp ct (fun τ f c2 => ⟨vb1, h1 h τ f c2⟩)
  · exact p_wrong (k := 1) ct ⟨vb0, h0 h⟩
theorem p_skipKey {d : Nat} {K : Po} {σ : Hp} {b : Nat → Nat} {m j c : Nat} (tb : TB b (tk b m j)) (tp : TpC b m σ) (ct : CTk b (tk b m j) σ) (hc : c < 2 ^ 31) (h1 : isK b (tk b m j) c → ∀ τ : Hp, FrS σ τ → CTk b (tk b m (j + 1)) τ → K (some (.int 1)) τ) (h0 : ¬ isK b (tk b m j) c → K (some (.int 0)) (wrg b (tk b m j) 1 σ)) : CTs (d + 3) y_Sc_skipKey [.ref 1, .int (nI c)] σ K := by
  refine e_Sc_skipKey (t_Sc_skipKey_0 (q_isK tb ct hc (fun h => o1 ?_) (fun h => o0 ?_)))
  · exact p_nx tp ct (fun τ f c2 => ⟨vb1, h1 h τ f c2⟩)
  · exact p_wrong (k := 1) ct ⟨vb0, h0 h⟩
abbrev EC : Type := (Nat → Nat) × Nat × Nat × Nat × (Nat → Option Nat) × (Nat → Bool) × Int32 × Hp
abbrev EC.b (e : EC) : Nat → Nat := e.1
abbrev EC.m (e : EC) : Nat := e.2.1
abbrev EC.n0 (e : EC) : Nat := e.2.2.1
abbrev EC.c0 (e : EC) : Nat := e.2.2.2.1
abbrev EC.fd (e : EC) : Nat → Option Nat := e.2.2.2.2.1
abbrev EC.tb (e : EC) : Nat → Bool := e.2.2.2.2.2.1
abbrev EC.bit (e : EC) : Int32 := e.2.2.2.2.2.2.1
abbrev EC.s0 (e : EC) : Hp := e.2.2.2.2.2.2.2
def EOk (e : EC) : Prop := e.m ≤ 300 ∧ (∀ k, k < e.m → e.b k < 256) ∧ e.n0 < 16 ∧ TpC e.b e.m e.s0 ∧ e.s0.1 17 0 = nI e.n0 ∧ (∀ x, fnd (e.s0.1 19) (nI x) e.n0 0 = e.fd x) ∧ (∀ i, i < e.n0 → (e.s0.1 18 i = 4 ↔ e.tb i = true)) ∧ (1 : Int32) <<< (nI e.n0 &&& 31) = e.bit
def men (s : List Nat) (i : Nat) : Prop := 100000 + i ∈ s ∨ 200000 + i ∈ s
def FsE (σ0 σ : Hp) : Prop := σ.2 = σ0.2 ∧ (∀ a, a ≠ 1 → a ≠ 17 → a ≠ 25 → a ≠ 29 → σ.1 a = σ0.1 a) ∧ (∀ x, x ≠ 1 → σ.1 17 x = σ0.1 17 x) ∧ ∀ x, x ≠ 5 → x ≠ 6 → x ≠ 7 → x ≠ 8 → x ≠ 9 → σ.1 1 x = σ0.1 1 x
def FrF (σ0 σ : Hp) : Prop := σ.2 = σ0.2 ∧ (∀ a, a ≠ 1 → ¬ (17 ≤ a ∧ a ≤ 30) → σ.1 a = σ0.1 a) ∧ ∀ x, x ≠ 2 → x ≠ 3 → x ≠ 5 → x ≠ 6 → x ≠ 7 → x ≠ 8 → x ≠ 9 → σ.1 1 x = σ0.1 1 x
def FtE (e : EC) (k jf : Nat) (σ : Hp) : Prop := FrF e.s0 σ ∧ σ.1 1 2 = nI k ∧ σ.1 1 3 = nI (tk e.b e.m jf).2.1
def SE (e : EC) (j : Nat) (s : List Nat) (Mn : Nat → Prop) (σ : Hp) : Prop :=
  CTk e.b (tk e.b e.m j) σ ∧ σ.1 17 1 = nI (e.c0 + s.length) ∧ (∀ q, q < s.length → σ.1 29 (e.c0 + q) = nI (cwN (s.getD q 0))) ∧ (∀ q, q < e.c0 → σ.1 29 q = e.s0.1 29 q) ∧ (∀ i, i < 16 → (Mn i → σ.1 25 i = e.s0.1 25 i ||| e.bit) ∧ (¬ Mn i → σ.1 25 i = e.s0.1 25 i)) ∧ FsE e.s0 σ
theorem FsE.S {σ0 σ τ : Hp} (h : FsE σ0 σ) (f : FrS σ τ) : FsE σ0 τ := ⟨f.1.trans h.1, fun a a1 a2 a3 a4 => (f.2.1 a a1).trans (h.2.1 a a1 a2 a3 a4), fun x hx => by rw [f.2.1 17 (by decide)]; exact h.2.2.1 x hx, fun x a b c d e => (f.2.2 x a b c d e).trans (h.2.2.2 x a b c d e)⟩
theorem EOk.tp {e : EC} (o : EOk e) {σ : Hp} (h : FsE e.s0 σ) : TpC e.b e.m σ := by
  obtain ⟨t1, t2, t3⟩ := o.2.2.2.1
  exact ⟨t1, (h.2.2.2 1 (by decide) (by decide) (by decide) (by decide) (by decide)).trans t2, fun k hk => by rw [h.2.1 2 (by decide) (by decide) (by decide) (by decide)]; exact t3 k hk⟩
theorem EOk.TB {e : EC} (o : EOk e) (j : Nat) : TB e.b (tk e.b e.m j) := tk_TB o.1 o.2.1 j
theorem SE.S {e : EC} {j j' : Nat} {s : List Nat} {Mn : Nat → Prop} {σ τ : Hp} (h : SE e j s Mn σ) (f : FrS σ τ) (c : CTk e.b (tk e.b e.m j') τ) : SE e j' s Mn τ := by
  obtain ⟨h1, h2, h3, h4, h5, h6⟩ := h
  refine ⟨c, by rw [f.2.1 17 (by decide)]; exact h2, fun q hq => by rw [f.2.1 29 (by decide)]; exact h3 q hq, fun q hq => by rw [f.2.1 29 (by decide)]; exact h4 q hq, fun i hi => by rw [f.2.1 25 (by decide)]; exact h5 i hi, h6.S f⟩
theorem SE.mn {e : EC} {j : Nat} {s : List Nat} {Mn Mn' : Nat → Prop} {σ : Hp} (h : SE e j s Mn σ) (hm : ∀ i, i < 16 → (Mn i ↔ Mn' i)) : SE e j s Mn' σ := by
  obtain ⟨h1, h2, h3, h4, h5, h6⟩ := h
  exact ⟨h1, h2, h3, h4, fun i hi => ⟨fun z => (h5 i hi).1 ((hm i hi).mpr z), fun z => (h5 i hi).2 (fun y => z ((hm i hi).mp y))⟩, h6⟩
theorem FtE.of {e : EC} {σ : Hp} (h : FsE e.s0 σ) (k jf : Nat) : FtE e k jf (wrg e.b (tk e.b e.m jf) k σ) := by
  unfold wrg
  refine ⟨⟨h.1, fun a a1 a2 => ?_, fun x x2 x3 x5 x6 x7 x8 x9 => ?_⟩, ?_, ?_⟩
  · rw [sI_r, if_neg a1, sI_r, if_neg a1]
    exact h.2.1 a a1 (by omega) (by omega) (by omega)
  · rw [sI_r, if_pos rfl, upd_r, if_neg x3, sI_r, if_pos rfl, upd_r, if_neg x2]
    exact h.2.2.2 x x5 x6 x7 x8 x9
  · rw [sI_r, if_pos rfl, upd_r, if_neg (by decide), sI_r, if_pos rfl, upd_r, if_pos rfl]
  · rw [sI_r, if_pos rfl, upd_r, if_pos rfl]
theorem getD_app {s : List Nat} {x : Nat} {q : Nat} (h : q < (s ++ [x]).length) : (s ++ [x]).getD q 0 = if q = s.length then x else s.getD q 0 := by
  rw [List.length_append] at h
  replace h : q < s.length + 1 := h
  rw [List.getD_eq_getElem?_getD, List.getD_eq_getElem?_getD]
  by_cases e : q = s.length
  · rw [if_pos e, e, List.getElem?_append_right (Nat.le_refl _), Nat.sub_self]; rfl
  · rw [if_neg e, List.getElem?_append_left (by omega)]
theorem p_addE {d : Nat} {K : Po} {e : EC} {j : Nat} {s : List Nat} {Mn : Nat → Prop} {σ : Hp} {a1 a2 : Int32} {x : Nat} (c : SE e j s Mn σ) (hr : e.c0 + s.length < 300) (hx : (a2 <<< ((4 : Int32) &&& 31)) ||| a1 = nI (cwN x)) (q : ∀ τ : Hp, SE e j (s ++ [x]) Mn τ → K (some (.int 1)) τ) : CTs (d + 1) y_Tx_addCode [.ref 17, .int a1, .int a2] σ K := by
  obtain ⟨h1, h2, h3, h4, h5, h6⟩ := c
  refine e_Tx_addCode rfl (t_Tx_addCode_0 rfl ?_)
  rw [h2, hx, nI_clamp (n := e.c0 + s.length) (by omega), nI_1]
  refine ifp (nI_lt (b := 300) hr (by omega)) ⟨vp_in_nI hr (by omega), vb1, q _ ?_⟩
  refine ⟨?_, ?_, fun q hq => ?_, fun q hq => ?_, fun i hi => ?_, ⟨h6.1, fun a a1 a2 a3 a4 => ?_, fun x hx => ?_, fun x x5 x6 x7 x8 x9 => ?_⟩⟩
  · exact h1
  · rw [sI_r, if_pos rfl, upd_r, if_pos rfl, List.length_append]; rfl
  · rw [sI_r, if_neg (by decide), sI_r, if_pos rfl, upd_r, getD_app hq]
    by_cases eq : q = s.length
    · rw [if_pos (by rw [eq]), if_pos eq]
    · rw [if_neg (by omega), if_neg eq]
      rw [List.length_append] at hq
      replace hq : q < s.length + 1 := hq
      exact h3 q (by omega)
  · rw [sI_r, if_neg (by decide), sI_r, if_pos rfl, upd_r, if_neg (by omega)]
    exact h4 q hq
  · rw [sI_r, if_neg (by decide), sI_r, if_neg (by decide)]
    exact h5 i hi
  · rw [sI_r, if_neg a2, sI_r, if_neg a4]
    exact h6.2.1 a a1 a2 a3 a4
  · rw [sI_r, if_pos rfl, upd_r, if_neg hx, sI_r, if_neg (by decide)]
    exact h6.2.2.1 x hx
  · rw [sI_r, if_neg (by decide), sI_r, if_neg (by decide)]
    exact h6.2.2.2 x x5 x6 x7 x8 x9
