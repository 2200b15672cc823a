/-! ===== the class reads things: corners, E, the end of a thing ===== -/
theorem RN.u26 {kd nm fi c k k' : Nat} {fr to : Option Nat} {R : Nat → Int32} (h : RN kd nm fi fr to c k R) : RN kd nm fi fr to c k' (upd R 26 (nI k')) := by
  obtain ⟨a1, a2, a3, a4, a5, a6, a7, a8⟩ := h
  refine ⟨?_, ?_, ?_, ?_, ?_, ?_, ?_, ?_⟩ <;> rw [upd_r] <;> first | rw [if_neg (by decide)]; assumption | rw [if_pos rfl]
theorem RN.u20 {kd nm fi fi' c k : Nat} {fr to : Option Nat} {R : Nat → Int32} (h : RN kd nm fi fr to c k R) : RN kd nm fi' fr to c k (upd R 20 (nI fi')) := by
  obtain ⟨a1, a2, a3, a4, a5, a6, a7, a8⟩ := h
  refine ⟨?_, ?_, ?_, ?_, ?_, ?_, ?_, ?_⟩ <;> rw [upd_r] <;> first | rw [if_neg (by decide)]; assumption | rw [if_pos rfl]
theorem RN.u2 {kd nm fi c k : Nat} {fr to fr' to' : Option Nat} {R : Nat → Int32} (h : RN kd nm fi fr to c k R) : RN kd nm fi fr' to' c k (upd (upd R 21 (eI fr')) 22 (eI to')) := by
  obtain ⟨a1, a2, a3, a4, a5, a6, a7, a8⟩ := h
  refine ⟨?_, ?_, ?_, ?_, ?_, ?_, ?_, ?_⟩
  · rw [upd_r, if_neg (by decide), upd_r, if_neg (by decide)]; exact a1
  · rw [upd_r, if_neg (by decide), upd_r, if_neg (by decide)]; exact a2
  · rw [upd_r, if_neg (by decide), upd_r, if_neg (by decide)]; exact a3
  · rw [upd_r, if_neg (by decide), upd_r, if_pos rfl]
  · rw [upd_r, if_pos rfl]
  · rw [upd_r, if_neg (by decide), upd_r, if_neg (by decide)]; exact a6
  · rw [upd_r, if_neg (by decide), upd_r, if_neg (by decide)]; exact a7
  · rw [upd_r, if_neg (by decide), upd_r, if_neg (by decide)]; exact a8
theorem laC_lt {cs : List (Nat × Nat)} (h : corV cs) : laC cs < 2 ^ 31 := by
  unfold laC
  by_cases e : cs.length = 0
  · rw [List.length_eq_zero_iff.mp e]; decide
  · have := (h.1 (cs.length - 1) (by omega)).1
    omega
theorem p_corsC {d : Nat} {K : Po} {b : Nat → Nat} {m : Nat} {σ00 : Hp} {ρ : Rho} {n c kd nm fi : Nat} {fr to : Option Nat} {s : List Nat} (tb : ∀ j, TB b (tk b m j)) (hn : n < 16) (hc6 : ∀ i, i < n → (ρ i).kd = 4 → (ρ i).cs.length ≤ 6) : ∀ (f j : Nat) (cs : List (Nat × Nat)) (R : Nat → Int32) (k0 : Nat) (σ : Hp), cs.length + f = 6 → corV cs → RN kd nm fi fr to c k0 R → (f = 0 → False) → CN b m σ00 ρ n c j s cs R σ →
    (∀ j' cs', pCors b m f cs j = .ok (j', cs') → ∀ (R : Nat → Int32) (τ : Hp), RN kd nm fi fr to c cs'.length R → CN b m σ00 ρ n c j' s cs' R τ → K (some (.int 1)) τ) →
    (∀ k jf, pCors b m f cs j = .error (k, jf) → ∀ τ : Hp, FtC b m σ00 k jf τ → K (some (.int 0)) τ) → WP c_Sc_allCorners (CTs (d + 4)) K (2, [(0, .ref 1), (1, .int (nI cs.length))], []) σ := by
  intro f
  induction f with
  | zero => intro j cs R k0 σ _ _ _ z; exact absurd rfl z
  | succ f ih =>
    intro j cs R k0 σ hl hv hR _ h q1 q0
    refine t_Sc_allCorners_2 (ifn (nI_ge (a := cs.length) (b := 6) (by omega) (by omega)) ?_)
    unfold pCors at q1 q0
    refine p_cornerC tb hn hc6 (by omega) (laC_lt hv) h (fun x hx τ h1 => o1 ?_) (fun k jf hx τ f1 => o0 ⟨vb0, q0 k jf (by rw [hx]) τ f1⟩)
    rw [hx] at q1 q0
    obtain ⟨c1, c2, c3, c4, c5⟩ := pCor_ok hx
    have v2 : corV (cs ++ [x]) := corV_app hv (by rw [c5]; exact c1.2.2.2) (by rw [c5]; exact c4.2.2.2) (by rw [c5]; exact c2)
    have hl2 : (cs ++ [x]).length = cs.length + 1 := List.length_append
    replace q1 : ∀ j' cs', (if isS b (tk b m (j + 3)) 44 then (if cs.length = 5 then .error (1, j + 3) else pCors b m f (cs ++ [x]) (j + 4)) else if 0 < cs.length then .ok (j + 3, cs ++ [x]) else .error (1, j + 3)) = Except.ok (j', cs') → ∀ (R : Nat → Int32) (τ : Hp), RN kd nm fi fr to c cs'.length R → CN b m σ00 ρ n c j' s cs' R τ → K (some (.int 1)) τ := q1
    replace q0 : ∀ k jf, (if isS b (tk b m (j + 3)) 44 then (if cs.length = 5 then .error (1, j + 3) else pCors b m f (cs ++ [x]) (j + 4)) else if 0 < cs.length then (.ok (j + 3, cs ++ [x]) : Except (Nat × Nat) (Nat × List (Nat × Nat))) else .error (1, j + 3)) = Except.error (k, jf) → ∀ τ : Hp, FtC b m σ00 k jf τ → K (some (.int 0)) τ := q0
    rw [h1.2.1.1, nI_clamp (n := n) (by omega), nI_1]
    have h2 := h1.w (q := 26) (v := nI (cs.length + 1)) (by decide) (by decide)
    have hR2 : RN kd nm fi fr to c (cs.length + 1) (upd R 26 (nI (cs.length + 1))) := hR.u26
    refine ⟨vp_in_nI hn (by omega), q_isS (c := 44) (tb _) h2.1.2.2.2.2 (by decide) (fun h44 => o1 ?_) (fun h44 => o0 ?_)⟩
    · rw [if_pos h44] at q1 q0
      by_cases e5 : cs.length = 5
      · rw [if_pos e5] at q0
        exact ifp (by rw [e5]; rfl) (p_wrong (k := 1) h2.1.2.2.2.2 ⟨vb0, q0 1 (j + 3) rfl _ (h2.1.f 1)⟩)
      · rw [if_neg e5] at q1 q0
        refine ifn (fun z => e5 ((nI_eq (b := 5) (by omega) (by omega)).mp z)) (p_nx h2.1.2.1 h2.1.2.2.2.2 (fun τ2 f2 k2 => ?_))
        have h3 := h2.S f2 k2
        rw [← hl2]
        rw [← hl2] at hR2 h3
        exact ih (j + 4) (cs ++ [x]) _ _ τ2 (by omega) v2 hR2 (fun z => by omega) h3 q1 q0
    · rw [if_neg h44] at q1 q0
      by_cases e0 : 0 < cs.length
      · rw [if_pos e0] at q1
        refine ifp (nI_lt (a := 0) e0 (by omega)) ⟨vb1, q1 (j + 3) (cs ++ [x]) rfl _ _ ?_ h2⟩
        rw [hl2]
        exact hR2
      · rw [if_neg e0] at q0
        exact ifn (nI_nlt (a := 0) (b := cs.length) (by omega) (by omega)) (p_wrong (k := 1) h2.1.2.2.2.2 (o0 ⟨vb0, q0 1 (j + 3) rfl _ (h2.1.f 1)⟩))
theorem FrF.tr {σ τ u : Hp} (h1 : FrF σ τ) (h2 : FrF τ u) : FrF σ u := ⟨h2.1.trans h1.1, fun a a1 a2 => (h2.2.1 a a1 a2).trans (h1.2.1 a a1 a2), fun x x2 x3 x5 x6 x7 x8 x9 => (h2.2.2 x x2 x3 x5 x6 x7 x8 x9).trans (h1.2.2 x x2 x3 x5 x6 x7 x8 x9)⟩
theorem FsE.F {σ τ : Hp} (h : FsE σ τ) : FrF σ τ := ⟨h.1, fun a a1 a2 => h.2.1 a a1 (by omega) (by omega) (by omega), fun x x2 x3 x5 x6 x7 x8 x9 => h.2.2.2 x x5 x6 x7 x8 x9⟩
theorem p_EC {K : Po} {b : Nat → Nat} {m : Nat} {σ00 : Hp} {ρ : Rho} {n c j : Nat} {cs : List (Nat × Nat)} {R : Nat → Int32} {σ : Hp} (hn : n < 16) (hc : c ≤ j) (hk6 : ∀ i, i < n → (ρ i).kd ≤ 6) (hcc : ∀ i, i < n → (ρ i).c + (ρ i).s.length ≤ c) (h : CN b m σ00 ρ n c j [] cs R σ) (hR25 : True)
    (q1 : ∀ j' s, pExp b m (pOne b m (fdR ρ n) (tbR ρ) 4) j = .ok (j', s) → ∀ (τ : Hp), CN b m σ00 ρ n c j' s cs (upd R 25 (τ.1 25 n)) τ → (¬ men s n → τ.1 25 n = R 25) → K (some (.int 1)) τ)
    (q0 : ∀ k jf, pExp b m (pOne b m (fdR ρ n) (tbR ρ) 4) j = .error (k, jf) → ∀ τ : Hp, FtC b m σ00 k jf τ → K (some (.int 0)) τ) : CTs 33 y_Sc_joins [.ref 1, .int 0, .int 0] σ K := by
  obtain ⟨g, l, r, kk⟩ := h
  have htp := g.2.1
  let e : EC := (b, m, n, c, fdR ρ n, tbR ρ, (1 : Int32) <<< nI n, σ)
  have o : EOk e := by
    refine ⟨htp.1, fun k hk => (htp.2.2 k hk).2, hn, htp, l.1, fun x => fnd_cong n 0 (fun t _ ht => (l.2.2.1 t (by omega)).2.1), fun i hi => ?_, ?_⟩
    · have := hk6 i hi
      show σ.1 18 i = 4 ↔ tbR ρ i = true
      rw [(l.2.2.1 i hi).1, tbR_4]
      exact nI_eq (b := 4) (by omega) (by omega)
    · show (1 : Int32) <<< (nI n &&& 31) = (1 : Int32) <<< nI n
      rw [(sh31 n hn).2.1, (sh31 n hn).2.2]
  refine p_E o (fdR_16 (by omega)) j [] (fun _ => False) σ K ⟨g.2.2.2.2, l.2.1, fun q hq => absurd hq (Nat.not_lt_zero _), fun q _ => rfl, fun i _ => ⟨fun z => absurd z id, fun _ => rfl⟩, rfl, fun _ _ _ _ _ => rfl, fun _ _ => rfl, fun _ _ _ _ _ _ => rfl⟩ (by show c + 0 ≤ j; omega) (fun j' s τ hs w => ?_) (fun k jf τ hs w => q0 k jf hs τ ⟨g.1.tr w.1, w.2.1, w.2.2⟩)
  obtain ⟨w1, w2, w3, w4, w5, w6⟩ := w
  have off : ∀ a, a ≠ 1 → a ≠ 17 → a ≠ 25 → a ≠ 29 → τ.1 a = σ.1 a := w6.2.1
  have f1 : ∀ x, x ≠ 5 → x ≠ 6 → x ≠ 7 → x ≠ 8 → x ≠ 9 → τ.1 1 x = σ.1 1 x := w6.2.2.2
  have h25 : ∀ i, i < 16 → τ.1 25 i = if 100000 + i ∈ s ∨ 200000 + i ∈ s then σ.1 25 i ||| (1 <<< nI n) else σ.1 25 i := fun i hi => by
    by_cases z : 100000 + i ∈ s ∨ 200000 + i ∈ s
    · rw [if_pos z]; exact (w5 i hi).1 (Or.inr z)
    · rw [if_neg z]; exact (w5 i hi).2 (fun y => y.elim id z)
  refine q1 j' s hs τ ⟨⟨g.1.tr w6.F, o.tp w6, (f1 2 (by decide) (by decide) (by decide) (by decide) (by decide)).trans g.2.2.1, (f1 3 (by decide) (by decide) (by decide) (by decide) (by decide)).trans g.2.2.2.1, w1⟩, ⟨(w6.2.2.1 0 (by decide)).trans l.1, w2, fun i hi => ?_, w3⟩, fun a a1 a2 => ?_, fun k hk => by rw [off 27 (by decide) (by decide) (by decide) (by decide), off 28 (by decide) (by decide) (by decide) (by decide)]; exact kk k hk⟩ (fun z => ?_)
  · have hr := l.2.2.1 i hi
    refine hr.cong (fun a _ _ => by rw [off a (by omega) (by omega) (by omega) (by omega)]) ?_ (by rw [off 26 (by decide) (by decide) (by decide) (by decide)]) (fun _ k _ => ⟨by rw [off 27 (by decide) (by decide) (by decide) (by decide)], by rw [off 28 (by decide) (by decide) (by decide) (by decide)]⟩) (fun q hq => w4 _ (by have := hcc i hi; show _ < c; omega))
    rw [h25 i (by omega), hr.2.2.2.2.2.2.2.1]
    rfl
  · rw [upd_r]
    by_cases e25 : a = 25
    · rw [if_pos e25, e25]
    · rw [if_neg e25, off a (by omega) (by omega) e25 (by omega)]
      exact r a a1 a2
  · rw [h25 n hn, if_neg (show ¬ (100000 + n ∈ s ∨ 200000 + n ∈ s) from z)]
    exact r 25 (by decide) (by decide)
theorem mvR_cong {ρ ρ' : Rho} {i : Nat} : ∀ n, ρ' i = ρ i → (∀ b, b < n → ρ' b = ρ b) → mvR ρ' i n = mvR ρ i n
  | 0, h, _ => by show mvI (ρ' i) = mvI (ρ i); rw [h]
  | n + 1, h, hb => by
    have ih := mvR_cong n h (fun b hn => hb b (by omega))
    unfold mvR
    rw [hb n (by omega), ih]
theorem mvR_none {ρ : Rho} {i : Nat} : ∀ n, (∀ b, b < n → ¬ men (ρ b).s i) → mvR ρ i n = mvI (ρ i)
  | 0, _ => rfl
  | n + 1, h => by
    unfold mvR
    rw [if_neg (show ¬ (100000 + i ∈ (ρ n).s ∨ 200000 + i ∈ (ρ n).s) from h n (by omega)), mvR_none n (fun b hb => h b (by omega))]
theorem mE_none : mvE (eI none) = 0 := by decide
theorem mE_some {i : Nat} (hi : i < 16) : mvE (eI (some i)) = 1 <<< (nI i &&& 31) := by
  show (if 0 ≤ nI i then 1 <<< nI i else 0) = _
  rw [if_pos (nI_pos' (by omega)), (sh31 i hi).2.1, (sh31 i hi).2.2]
theorem p_closeC {d : Nat} {K : Po} {b : Nat → Nat} {m : Nat} {σ00 : Hp} {ρ : Rho} {n c j kd nm lg fi : Nat} {fr to : Option Nat} {s : List Nat} {cs : List (Nat × Nat)} {R : Nat → Int32} {σ : Hp} (hn : n < 16) (hf : endV ρ n kd fr) (ht : endV ρ n kd to) (hmen : ∀ i, i < n + 1 → ∀ b, b < n → ¬ (i = n ∧ men (ρ b).s i)) (hms : ¬ men s n) (hR : RN kd nm fi fr to c cs.length R) (h : CN b m σ00 ρ n c j s cs R σ)
    (q : ∀ τ : Hp, CBt b m σ00 (updR ρ n (kd, nm, lg, fi, fr, to, c, s, cs)) (n + 1) (c + s.length) j τ → K none τ) : CTs (d + 2) y_Tx_close [.ref 17] σ K := by
  have hv : vp_in (nI n) 16 := vp_in_nI hn (by omega)
  refine e_Tx_close rfl (t_Tx_close_0 rfl ?_)
  have l1 := h.2.1.1
  obtain ⟨r18, r19, r20, r21, r22, r23, r25, r26⟩ := hR
  have a21 : σ.1 21 n = eI fr := (h.2.2.1 21 (by decide) (by decide)).trans r21
  rw [l1, h.2.1.2.1, nI_clamp (n := n) (by omega)]
  refine ⟨hv, hv, ?_⟩
  show CTs (d + 1) y_Tx_has [.ref 17, .int (σ.1 21 n)] _ _
  rw [a21]
  have h2 := h.w (q := 24) (v := nI (c + s.length)) (by decide) (by decide)
  -- the end: all rows as they must be
  have fin : ∀ (x : Int32) (τ : Hp) (R' : Nat → Int32), CN b m σ00 ρ n c j s cs R' τ → R' 18 = nI kd → R' 19 = nI nm → R' 20 = nI fi → R' 21 = eI fr → R' 22 = eI to → R' 23 = nI c → R' 24 = nI (c + s.length) → R' 25 = x → R' 26 = nI cs.length → x = mvI (kd, nm, lg, fi, fr, to, c, s, cs) → K none (sI τ 17 0 (τ.1 17 0 + 1)) := fun x τ R' hc t18 t19 t20 t21 t22 t23 t24 t25 t26 hx => by
    refine q _ ?_
    obtain ⟨g, ⟨l1, l2, l3, l4⟩, r, kk⟩ := hc
    have off : ∀ a, a ≠ 17 → (sI τ 17 0 (τ.1 17 0 + 1)).1 a = τ.1 a := fun a ha => by rw [sI_r, if_neg ha]
    have en : updR ρ n (kd, nm, lg, fi, fr, to, c, s, cs) n = (kd, nm, lg, fi, fr, to, c, s, cs) := if_pos rfl
    have eo : ∀ t, t ≠ n → updR ρ n (kd, nm, lg, fi, fr, to, c, s, cs) t = ρ t := fun t ht => if_neg ht
    have ms0 : ∀ i, mvS (updR ρ n (kd, nm, lg, fi, fr, to, c, s, cs)) i (n + 1) [] = mvR (updR ρ n (kd, nm, lg, fi, fr, to, c, s, cs)) i (n + 1) := fun i => if_neg (men_nil (i := i))
    refine ⟨g.w (by decide) (by decide), ?_, ?_, fun i hi => ?_, fun q hq => absurd hq (Nat.not_lt_zero _)⟩
    · rw [sI_r, if_pos rfl, upd_r, if_pos rfl, l1, nI_1]
    · rw [sI_r, if_pos rfl, upd_r, if_neg (by decide)]; exact l2
    · rw [ms0]
      by_cases ei : i = n
      · subst ei
        rw [en]
        refine ⟨?_, ?_, fun _ => ?_, ?_, ?_, ?_, ?_, ?_, fun _ => ⟨?_, fun k hk => ?_⟩, fun q hq => ?_⟩
        · rw [off 18 (by decide)]; exact (r 18 (by decide) (by decide)).trans t18
        · rw [off 19 (by decide)]; exact (r 19 (by decide) (by decide)).trans t19
        · rw [off 20 (by decide)]; exact (r 20 (by decide) (by decide)).trans t20
        · rw [off 21 (by decide)]; exact (r 21 (by decide) (by decide)).trans t21
        · rw [off 22 (by decide)]; exact (r 22 (by decide) (by decide)).trans t22
        · rw [off 23 (by decide)]; exact (r 23 (by decide) (by decide)).trans t23
        · rw [off 24 (by decide)]; exact (r 24 (by decide) (by decide)).trans t24
        · rw [off 25 (by decide), (r 25 (by decide) (by decide)).trans t25, hx]
          rw [mvR_none (i + 1) (fun b hb => ?_), en]
          by_cases eb : b = i
          · rw [eb, en]; exact hms
          · rw [eo b eb]; exact fun z => hmen i (by omega) b (by omega) ⟨rfl, z⟩
        · rw [off 26 (by decide)]; exact (r 26 (by decide) (by decide)).trans t26
        · rw [off 27 (by decide), off 28 (by decide)]; exact kk k hk
        · rw [off 29 (by decide)]; exact l4 q hq
      · rw [eo i ei]
        have hr := l3 i (by omega)
        refine hr.cong (fun a _ _ => by rw [off a (by omega)]) ?_ (by rw [off 26 (by decide)]) (fun _ k _ => ⟨by rw [off 27 (by decide)], by rw [off 28 (by decide)]⟩) (fun q hq => by rw [off 29 (by decide)])
        rw [off 25 (by decide), hr.2.2.2.2.2.2.2.1]
        have e3 : mvR (updR ρ n (kd, nm, lg, fi, fr, to, c, s, cs)) i n = mvR ρ i n := mvR_cong n (eo i ei) (fun b hb => eo b (by omega))
        show mvS ρ i n s = if 100000 + i ∈ (updR ρ n (kd, nm, lg, fi, fr, to, c, s, cs) n).s ∨ 200000 + i ∈ (updR ρ n (kd, nm, lg, fi, fr, to, c, s, cs) n).s then mvR (updR ρ n (kd, nm, lg, fi, fr, to, c, s, cs)) i n ||| (1 <<< nI n) else mvR (updR ρ n (kd, nm, lg, fi, fr, to, c, s, cs)) i n
        rw [en, e3]
        rfl
  have k3 : ∀ {e : Option Nat}, endV ρ n kd e → e ≠ none → kd = 3 := fun z y => by
    rcases z with z | ⟨z, -⟩
    · exact absurd z y
    · exact z
  have m0 : mvI (kd, nm, lg, fi, fr, to, c, s, cs) = if kd = 3 then mvE (eI fr) ||| mvE (eI to) else 0 := rfl
  have u24 : ∀ a, a ≠ 24 → upd R 24 (nI (c + s.length)) a = R a := fun a ha => by rw [upd_r, if_neg ha]
  have a24 : upd R 24 (nI (c + s.length)) 24 = nI (c + s.length) := by rw [upd_r, if_pos rfl]
  have l1' : (sI σ 24 n (nI (c + s.length))).1 17 0 = nI n := h2.2.1.1
  have a22' : (sI σ 24 n (nI (c + s.length))).1 22 n = eI to := (h2.2.2.1 22 (by decide) (by decide)).trans ((u24 22 (by decide)).trans r22)
  have a21' : (sI σ 24 n (nI (c + s.length))).1 21 n = eI fr := (h2.2.2.1 21 (by decide) (by decide)).trans ((u24 21 (by decide)).trans r21)
  have a25' : (sI σ 24 n (nI (c + s.length))).1 25 n = 0 := (h2.2.2.1 25 (by decide) (by decide)).trans ((u24 25 (by decide)).trans r25)
  have i9 : nIx (eI none) n := Or.inl (by decide)
  rcases hf with hf0 | ⟨hk3, i1, hi1, hf1, -⟩
  · subst hf0
    refine p_has0 (Or.inr rfl) l1' i9 (o0 ?_)
    rw [l1', nI_clamp (n := n) (by omega)]
    refine ⟨hv, ?_⟩
    show CTs (d + 1) y_Tx_has [.ref 17, .int ((sI σ 24 n (nI (c + s.length))).1 22 n)] _ _
    rw [a22']
    rcases ht with ht0 | ⟨hk3, i2, hi2, ht1, -⟩
    · subst ht0
      refine p_has0 (Or.inr rfl) l1' i9 (o0 ?_)
      refine fin 0 _ _ h2 ((u24 18 (by decide)).trans r18) ((u24 19 (by decide)).trans r19) ((u24 20 (by decide)).trans r20) ((u24 21 (by decide)).trans r21) ((u24 22 (by decide)).trans r22) ((u24 23 (by decide)).trans r23) a24 ((u24 25 (by decide)).trans r25) ((u24 26 (by decide)).trans r26) ?_
      rw [m0, mE_none]
      split <;> rfl
    · subst ht1
      refine p_has1 (Or.inr rfl) l1' (by omega) hi2 (o1 ?_)
      rw [l1', nI_clamp (n := n) (by omega)]
      refine ⟨hv, hv, hv, ?_⟩
      show K none (sI (sI (sI σ 24 n (nI (c + s.length))) 25 n ((sI σ 24 n (nI (c + s.length))).1 25 n ||| (1 : Int32) <<< ((sI σ 24 n (nI (c + s.length))).1 22 n &&& 31))) 17 0 (nI n + 1))
      rw [a25', a22']
      have h3 := h2.w (q := 25) (v := (0 : Int32) ||| (1 : Int32) <<< (eI (some i2) &&& 31)) (by decide) (by decide)
      have u25 : ∀ a, a ≠ 24 → a ≠ 25 → upd (upd R 24 (nI (c + s.length))) 25 ((0 : Int32) ||| (1 : Int32) <<< (eI (some i2) &&& 31)) a = R a := fun a h1 h2 => by rw [upd_r, if_neg h2, upd_r, if_neg h1]
      have := fin ((0 : Int32) ||| (1 : Int32) <<< (eI (some i2) &&& 31)) _ _ h3 ((u25 18 (by decide) (by decide)).trans r18) ((u25 19 (by decide) (by decide)).trans r19) ((u25 20 (by decide) (by decide)).trans r20) ((u25 21 (by decide) (by decide)).trans r21) ((u25 22 (by decide) (by decide)).trans r22) ((u25 23 (by decide) (by decide)).trans r23) (by rw [upd_r, if_neg (by decide), upd_r, if_pos rfl]) (by rw [upd_r, if_pos rfl]) ((u25 26 (by decide) (by decide)).trans r26) (by rw [m0, if_pos hk3, mE_none, mE_some (by omega)]; rfl)
      rw [h3.2.1.1] at this
      exact this
  · subst hf1
    refine p_has1 (Or.inr rfl) l1' (by omega) hi1 (o1 ?_)
    rw [l1', nI_clamp (n := n) (by omega)]
    refine ⟨hv, hv, hv, hv, ?_⟩
    show CTs (d + 1) y_Tx_has [.ref 17, .int ((sI σ 24 n (nI (c + s.length))).1 22 n)] (sI (sI σ 24 n (nI (c + s.length))) 25 n ((sI σ 24 n (nI (c + s.length))).1 25 n ||| (1 : Int32) <<< ((sI σ 24 n (nI (c + s.length))).1 21 n &&& 31))) _
    rw [a25', a21', a22']
    have h3 := h2.w (q := 25) (v := (0 : Int32) ||| (1 : Int32) <<< (eI (some i1) &&& 31)) (by decide) (by decide)
    have u25 : ∀ a, a ≠ 24 → a ≠ 25 → upd (upd R 24 (nI (c + s.length))) 25 ((0 : Int32) ||| (1 : Int32) <<< (eI (some i1) &&& 31)) a = R a := fun a h1 h2 => by rw [upd_r, if_neg h2, upd_r, if_neg h1]
    have a24'' : upd (upd R 24 (nI (c + s.length))) 25 ((0 : Int32) ||| (1 : Int32) <<< (eI (some i1) &&& 31)) 24 = nI (c + s.length) := by rw [upd_r, if_neg (by decide), upd_r, if_pos rfl]
    have l1'' := h3.2.1.1
    rcases ht with ht0 | ⟨-, i2, hi2, ht1, -⟩
    · subst ht0
      refine p_has0 (Or.inr rfl) l1'' i9 (o0 ?_)
      exact fin ((0 : Int32) ||| (1 : Int32) <<< (eI (some i1) &&& 31)) _ _ h3 ((u25 18 (by decide) (by decide)).trans r18) ((u25 19 (by decide) (by decide)).trans r19) ((u25 20 (by decide) (by decide)).trans r20) ((u25 21 (by decide) (by decide)).trans r21) ((u25 22 (by decide) (by decide)).trans r22) ((u25 23 (by decide) (by decide)).trans r23) a24'' (by rw [upd_r, if_pos rfl]) ((u25 26 (by decide) (by decide)).trans r26) (by rw [m0, if_pos hk3, mE_none, mE_some (by omega), Int32.or_zero, Int32.zero_or]; rfl)
    · subst ht1
      refine p_has1 (Or.inr rfl) l1'' (by omega) hi2 (o1 ?_)
      have b25 : (sI (sI σ 24 n (nI (c + s.length))) 25 n ((0 : Int32) ||| (1 : Int32) <<< (eI (some i1) &&& 31))).1 25 n = (0 : Int32) ||| (1 : Int32) <<< (eI (some i1) &&& 31) := by rw [sI_r, if_pos rfl, upd_r, if_pos rfl]
      have b22 : (sI (sI σ 24 n (nI (c + s.length))) 25 n ((0 : Int32) ||| (1 : Int32) <<< (eI (some i1) &&& 31))).1 22 n = eI (some i2) := (h3.2.2.1 22 (by decide) (by decide)).trans ((u25 22 (by decide) (by decide)).trans r22)
      rw [l1'', nI_clamp (n := n) (by omega)]
      refine ⟨hv, hv, hv, ?_⟩
      show K none (sI (sI (sI (sI σ 24 n (nI (c + s.length))) 25 n ((0 : Int32) ||| (1 : Int32) <<< (eI (some i1) &&& 31))) 25 n ((sI (sI σ 24 n (nI (c + s.length))) 25 n ((0 : Int32) ||| (1 : Int32) <<< (eI (some i1) &&& 31))).1 25 n ||| (1 : Int32) <<< ((sI (sI σ 24 n (nI (c + s.length))) 25 n ((0 : Int32) ||| (1 : Int32) <<< (eI (some i1) &&& 31))).1 22 n &&& 31))) 17 0 (nI n + 1))
      rw [b25, b22]
      have h4 := h3.w (q := 25) (v := ((0 : Int32) ||| (1 : Int32) <<< (eI (some i1) &&& 31)) ||| (1 : Int32) <<< (eI (some i2) &&& 31)) (by decide) (by decide)
      have u26 : ∀ a, a ≠ 24 → a ≠ 25 → upd (upd (upd R 24 (nI (c + s.length))) 25 ((0 : Int32) ||| (1 : Int32) <<< (eI (some i1) &&& 31))) 25 (((0 : Int32) ||| (1 : Int32) <<< (eI (some i1) &&& 31)) ||| (1 : Int32) <<< (eI (some i2) &&& 31)) a = R a := fun a h1 h2 => by rw [upd_r, if_neg h2]; exact u25 a h1 h2
      have := fin (((0 : Int32) ||| (1 : Int32) <<< (eI (some i1) &&& 31)) ||| (1 : Int32) <<< (eI (some i2) &&& 31)) _ _ h4 ((u26 18 (by decide) (by decide)).trans r18) ((u26 19 (by decide) (by decide)).trans r19) ((u26 20 (by decide) (by decide)).trans r20) ((u26 21 (by decide) (by decide)).trans r21) ((u26 22 (by decide) (by decide)).trans r22) ((u26 23 (by decide) (by decide)).trans r23) (by rw [upd_r, if_neg (by decide)]; exact a24'') (by rw [upd_r, if_pos rfl]) ((u26 26 (by decide) (by decide)).trans r26) (by rw [m0, if_pos hk3, mE_some (by omega), mE_some (by omega), Int32.zero_or]; rfl)
      rw [h4.2.1.1] at this
      exact this
