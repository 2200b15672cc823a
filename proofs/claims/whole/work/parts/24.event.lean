/-! ===== text and world under writes elsewhere ===== -/
def SameT (t : Nat) (σ τ : Hp) : Prop := τ.1 t 0 = σ.1 t 0 ∧ τ.1 t 1 = σ.1 t 1 ∧ ∀ j, 1 ≤ j → j ≤ 12 → τ.1 (t + j) = σ.1 (t + j)
theorem SameT.rf {t : Nat} {σ : Hp} : SameT t σ σ := ⟨rfl, rfl, fun _ _ _ => rfl⟩
theorem SameT.tr {t : Nat} {σ τ u : Hp} (h1 : SameT t σ τ) (h2 : SameT t τ u) : SameT t σ u := ⟨h2.1.trans h1.1, h2.2.1.trans h1.2.1, fun j a b => (h2.2.2 j a b).trans (h1.2.2 j a b)⟩
theorem SameT.sI {t c k : Nat} {v : Int32} {σ τ : Hp} (h : SameT t σ τ) (hc : c < t ∨ t + 12 < c ∨ c = t ∧ 1 < k) : SameT t σ (sI τ c k v) := by
  refine ⟨?_, ?_, fun j h1 h2 => ?_⟩
  · rw [sI_r]
    by_cases e : t = c
    · rw [if_pos e, upd_r, if_neg (by omega), ← e]; exact h.1
    · rw [if_neg e]; exact h.1
  · rw [sI_r]
    by_cases e : t = c
    · rw [if_pos e, upd_r, if_neg (by omega), ← e]; exact h.2.1
    · rw [if_neg e]; exact h.2.1
  · rw [sI_r, if_neg (by omega)]; exact h.2.2 j h1 h2
theorem SameT.sC {t c : Nat} {f : Nat → Int32} {σ τ : Hp} (h : SameT t σ τ) (hc : c < t ∨ t + 12 < c) : SameT t σ (sC τ c f) := by
  refine ⟨?_, ?_, fun j h1 h2 => ?_⟩
  · rw [sC_r, if_neg (by omega)]; exact h.1
  · rw [sC_r, if_neg (by omega)]; exact h.2.1
  · rw [sC_r, if_neg (by omega)]; exact h.2.2 j h1 h2
theorem SameT.sL {t c k : Nat} {v : Int64} {σ τ : Hp} (h : SameT t σ τ) : SameT t σ (sL τ c k v) := h
theorem CX.to {t n : Nat} {th sg : Nat → Int32} {σ τ : Hp} (h : CX n th sg (fun j => σ.1 (t + j))) (hs : SameT t σ τ) : CX n th sg (fun j => τ.1 (t + j)) := h.cong hs.1 hs.2.1 hs.2.2
theorem op_event : O_event Rel := by
  intro σ a1 a2 a3 h
  obtain ⟨⟨n, now, ne, a, b, c, ⟨tw, cx, mw, cw, ps, h60⟩, wl⟩, hr, hkp⟩ := id h
  have h16 := tw.1
  have hn3 : σ.1 3 0 = nI n := cx.1
  have hnow : σ.1 45 0 = nI now := cw.1
  have hne : σ.1 45 4 = nI ne := cw.2.1
  have h6 : ne ≤ 6 := mw.2.1
  refine e_SS_event (t_SS_event_0 (ite2 (fun h1 => ?_) (fun h1 => ite2 (fun h2 => ?_) (fun h2 => ?_))))
  · exact e_M_event (t_M_event_0 (ifp (by rw [b, ← hnow]; exact h1) ⟨rfl, h⟩))
  · exact e_M_event (t_M_event_0 (ifn (by rw [b, ← hnow]; exact h1) (ifp h2 ⟨rfl, h⟩)))
  have h1' : ¬ a1 ≤ σ.1 98 19 := by rw [b, ← hnow]; exact h1
  rcases ixc a2 (n := n) (by omega) with z | ⟨i, hi, rfl⟩
  · exact p_has0 (Or.inl rfl) hn3 z (o0 (e_M_event (t_M_event_0 (ifn h1' (ifn h2 (p_isThing0 a h16 z (o0 ⟨rfl, h⟩)))))))
  refine p_has1 (Or.inl rfl) hn3 h16 hi (o1 ⟨vp_in_nI (by omega) (by omega), ?_⟩)
  have hk : σ.1 4 i = σ.1 99 (20 * i) := (cx.2.1 i hi).1
  rw [nI_clamp (by omega), hk]
  refine ite2 (fun h5 => ?_) (fun h5 => ?_)
  · rw [hne]
    by_cases hlt : ne < 6
    · refine ifp (nI_lt (b := 6) hlt (by omega)) ⟨vp_in_nI hlt (by omega), vp_in_nI hlt (by omega), vp_in_nI hlt (by omega), ?_⟩
      rw [nI_clamp (by omega), nI_1]
      refine e_M_event (t_M_event_0 (ifn h1' (ifn h2 (p_isThing1 a h16 hi (o1 (p_of (w := 0) (by omega) (by omega) (ifp h5 ?_)))))))
      show (if σ.1 98 25 = 6 then _ else _)
      rw [c]
      have e0 : (3 : Int32) * nI ne = nI (3 * ne) := by rw [show (3 : Int32) = nI 3 from rfl, pk_mul]
      have e1 : nI (3 * ne) + 1 = nI (3 * ne + 1) := nI_add (3 * ne) 1
      have e2 : nI (3 * ne) + 2 = nI (3 * ne + 2) := nI_add (3 * ne) 2
      refine ifn (fun e => by have := (nI_eq (a := ne) (b := 6) (by omega) (by omega)).mp e; omega) ?_
      show vp_in ((3 : Int32) * σ.1 98 25) 18 ∧ vp_in ((3 : Int32) * σ.1 98 25 + 1) 18 ∧ vp_in ((3 : Int32) * σ.1 98 25 + 2) 18 ∧ _
      rw [c, e0, e1, e2]
      refine ⟨vp_in_nI (by omega) (by omega), vp_in_nI (by omega) (by omega), vp_in_nI (by omega) (by omega), ?_, ?_⟩
      · show nI ne = σ.1 98 25 + 1 - 1
        rw [c]
        rw [nI_1, nI_pred]
      · show Rel (sI (sI (sI (sI _ 107 ((3 : Int32) * σ.1 98 25).toNatClampNeg a1) 107 ((3 : Int32) * σ.1 98 25 + 1).toNatClampNeg (nI i)) 107 ((3 : Int32) * σ.1 98 25 + 2).toNatClampNeg a3) 98 25 (σ.1 98 25 + 1))
        rw [c, e0, e1, e2, nI_clamp (by omega), nI_clamp (by omega), nI_clamp (by omega), nI_1]
        refine ⟨⟨n, now, ne + 1, a, b, rfl, ⟨tw, ?_, ⟨mw.1, by omega, fun e he => ?_⟩, ⟨?_, ?_, fun e he => ?_, cw.2.2.2.1, cw.2.2.2.2.1, cw.2.2.2.2.2.1, cw.2.2.2.2.2.2.1, cw.2.2.2.2.2.2.2⟩, ps, h60⟩, wl⟩, hr.same ?_, hkp.same ?_⟩
        · exact cx.to ((((((((SameT.rf.sI (by omega)).sI (by omega)).sI (by omega)).sI (by omega)).sI (by omega)).sI (by omega)).sI (by omega)).sI (by omega))
        · show ∃ j, j < n ∧ upd (upd (upd (σ.1 107) (3 * ne) a1) (3 * ne + 1) (nI i)) (3 * ne + 2) a3 (3 * e + 1) = nI j ∧ σ.1 99 (20 * j) = 5
          by_cases ee : e = ne
          · subst ee
            exact ⟨i, hi, by rw [upd_r, if_neg (by omega), upd_r, if_pos rfl], h5⟩
          · rw [upd_r, if_neg (by omega), upd_r, if_neg (by omega), upd_r, if_neg (by omega)]
            exact mw.2.2 e (by omega)
        · exact hnow
        · rfl
        · show upd (σ.1 46) ne a1 e = upd (upd (upd (σ.1 107) (3 * ne) a1) (3 * ne + 1) (nI i)) (3 * ne + 2) a3 (3 * e) ∧ upd (σ.1 47) ne (nI i) e = upd (upd (upd (σ.1 107) (3 * ne) a1) (3 * ne + 1) (nI i)) (3 * ne + 2) a3 (3 * e + 1) ∧ upd (σ.1 48) ne a3 e = upd (upd (upd (σ.1 107) (3 * ne) a1) (3 * ne + 1) (nI i)) (3 * ne + 2) a3 (3 * e + 2)
          by_cases ee : e = ne
          · subst ee
            refine ⟨?_, ?_, ?_⟩
            · rw [pk_us, upd_r, if_neg (by omega), upd_r, if_neg (by omega), pk_us]
            · rw [pk_us, upd_r, if_neg (by omega), pk_us]
            · rw [pk_us, pk_us]
          · obtain ⟨c1, c2, c3⟩ := cw.2.2.1 e (by omega)
            refine ⟨?_, ?_, ?_⟩
            · rw [pk_un ee, upd_r, if_neg (by omega), upd_r, if_neg (by omega), upd_r, if_neg (by omega)]; exact c1
            · rw [pk_un ee, upd_r, if_neg (by omega), upd_r, if_neg (by omega), upd_r, if_neg (by omega)]; exact c2
            · rw [pk_un ee, upd_r, if_neg (by omega), upd_r, if_neg (by omega), upd_r, if_neg (by omega)]; exact c3
        · exact (((((((SameG.rf.sI rfl).sI rfl).sI rfl).sI rfl).sI rfl).sI rfl).sI rfl).sI rfl
        · exact (((((((SameG.rf.sI rfl).sI rfl).sI rfl).sI rfl).sI rfl).sI rfl).sI rfl).sI rfl
    · have e6 : ne = 6 := by omega
      subst e6
      refine ifn (by decide) (e_M_event (t_M_event_0 (ifn h1' (ifn h2 (p_isThing1 a h16 hi (o1 (p_of (w := 0) (by omega) (by omega) (ifp h5 (ifp c ⟨rfl, h⟩)))))))))
  · exact e_M_event (t_M_event_0 (ifn h1' (ifn h2 (p_isThing1 a h16 hi (o1 (p_of (w := 0) (by omega) (by omega) (ifn h5 ⟨rfl, h⟩)))))))
/-! ===== taken ===== -/
theorem p_thingOn1 {d : Nat} {K : Po} {σ : Hp} {s i n : Nat} (hs : s < 4) (hn : σ.1 3 0 = nI n) (h16 : n ≤ 16) (h1 : σ.1 85 s = 1) (hi : i < n) (h2 : σ.1 86 s = nI i) (k : K (some (.int (nI i))) σ) : CTs (d + 2) y_SS_thingOn [.ref 0, .int (nI s)] σ K := by
  refine e_SS_thingOn (t_SS_thingOn_0 ⟨vp_in_nI (by omega) (by omega), ?_⟩)
  rw [nI_clamp (by omega), h2]
  refine ifp h1 ⟨vp_in_nI (by omega) (by omega), p_has1 (Or.inl rfl) hn h16 hi (o1 (ifn (by decide) ⟨vp_in_nI (by omega) (by omega), ?_⟩))⟩
  rw [h2]
  exact k
theorem p_thingOn0 {d : Nat} {K : Po} {σ : Hp} {s n : Nat} (hs : s < 4) (hn : σ.1 3 0 = nI n) (h : σ.1 85 s ≠ 1 ∨ nIx (σ.1 86 s) n) (k : K (some (.int (-1))) σ) : CTs (d + 2) y_SS_thingOn [.ref 0, .int (nI s)] σ K := by
  refine e_SS_thingOn (t_SS_thingOn_0 ⟨vp_in_nI (by omega) (by omega), ?_⟩)
  rw [nI_clamp (by omega)]
  refine ite2 (fun h1 => ⟨vp_in_nI (by omega) (by omega), ?_⟩) (fun h1 => ifp rfl k)
  rcases h with h | h
  · exact absurd h1 h
  · exact p_has0 (Or.inl rfl) hn h (o0 (ifp rfl k))
def undr (k a : Nat) : Bool := Nat.beq a 0 || Nat.beq a k || (Nat.beq a 1 && Nat.beq k 2) || (Nat.beq a 3 && Nat.beq k 4) || (Nat.beq a 5 && Nat.beq k 6)
def abv (k : Nat) : Nat := ([0, 0, 1, 0, 3, 0, 5] : List Nat).getD k 0
theorem abv_tv : ∀ k, k < 7 → tv 129 (nI k).toNatClampNeg = nI (abv k) ∧ abv k < 7 := by decide +kernel
theorem p_under {d : Nat} {K : Po} {σ : Hp} {k a : Nat} (hk : k < 7) (ha : a < 7) (q : K (some (.int (if undr k a then 1 else 0))) σ) : CTs (d + 1) y_SS_isUnder [.int (nI k), .int (nI a)] σ K := by
  refine e_SS_isUnder (t_SS_isUnder_0 ?_)
  have key : ∀ c r x, r + c = 7 → x < 7 → ((∃ m, m < c ∧ (Nat.repeat abv m x) = a) → K (some (.int 1)) σ) → ((∀ m, m < c → Nat.repeat abv m x ≠ a) → K (some (.int 0)) σ) → WP c_SS_isUnder (CTs d) K (4, [(1, .int (nI a)), (2, .int (nI x)), (3, .int (nI r))], []) σ := by
    intro c
    induction c with
    | zero =>
      intro r x hr hx k1 k0
      exact t_SS_isUnder_4 (ifp (nI_le (a := 7) (by omega) (by omega)) ⟨vb0, k0 (fun m hm => by omega)⟩)
    | succ c ih =>
      intro r x hr hx k1 k0
      refine t_SS_isUnder_4 (ifn (nI_ge (b := 7) (by omega) (by omega)) (ite2 (fun e => ⟨vb1, k1 ⟨0, by omega, (nI_eq (a := x) (b := a) (by omega) (by omega)).mp e⟩⟩) (fun e => ⟨vp_in_nI hx (by omega), ?_⟩)))
      rw [(abv_tv x hx).1, nI_1]
      have hrep : ∀ m, Nat.repeat abv m (abv x) = Nat.repeat abv (m + 1) x := fun m => by
        induction m with
        | zero => rfl
        | succ m ihm => show abv (Nat.repeat abv m (abv x)) = abv (Nat.repeat abv (m + 1) x); rw [ihm]
      refine ih (r + 1) (abv x) (by omega) (abv_tv x hx).2 (fun ⟨m, hm, e2⟩ => k1 ⟨m + 1, by omega, (hrep m).symm.trans e2⟩) (fun hall => k0 (fun m hm e2 => ?_))
      match m, hm, e2 with
      | 0, _, e2 => exact e (congrArg nI e2)
      | m + 1, hm, e2 => exact hall m (by omega) ((hrep m).trans e2)
  have dec : ∀ k, k < 7 → ∀ a, a < 7 → (undr k a = true ↔ ∃ m, m < 7 ∧ Nat.repeat abv m k = a) := by decide +kernel
  refine key 7 0 k rfl hk (fun h => ?_) (fun h => ?_)
  · rw [if_pos ((dec k hk a ha).mpr h)] at q; exact q
  · rw [if_neg (fun e => by obtain ⟨m, hm, e2⟩ := (dec k hk a ha).mp e; exact h m hm e2)] at q; exact q
