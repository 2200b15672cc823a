/-! ===== data laid beside: miss, fit ===== -/
def absL (x : Int64) : Int64 := if 0 < x then x else -x
theorem absL_eq (x : Int64) : absL x = if 0 ≤ x then x else -x := by
  unfold absL
  by_cases h : 0 < x
  · rw [if_pos h, if_pos (Int64.le_of_lt h)]
  · rw [if_neg h]
    by_cases h2 : 0 ≤ x
    · rw [if_pos h2, show x = 0 from Int64.le_antisymm (Int64.not_lt.mp h) h2]; decide
    · rw [if_neg h2]
theorem lneg {x : Int32} : (0 : Int64) ≤ x.toInt64 ↔ ¬ x < 0 := by
  rw [Int64.le_iff_toInt_le, Int32.lt_iff_toInt_lt, Int32.toInt_toInt64, show (0 : Int64).toInt = 0 from by decide, show (0 : Int32).toInt = 0 from by decide]
  omega
def msF (it H : Nat → Int32) (j : Nat) : Int64 := if it j < 0 then 0 else absL ((it j).toInt64 - (H j).toInt64)
/-- the state from which data are laid beside -/
def ws1 (n : Nat) (th : Nat → Int32) (s : WS) (a1 a2 : Int32) (s1 : WS) : Prop := (a1 = -1 ∧ s1 = ws0 n th s) ∨ ∃ i, i < n ∧ th (20 * i) = 5 ∧ a1 = nI i ∧ s1 = wsH (ws0 n th s) i a2
theorem ws1_MW {n ne : Nat} {th sg ev : Nat → Int32} {s s1 : WS} {a1 a2 : Int32} (tw : TW n th sg) (mw : MW n th s.1 ne ev) (h : ws1 n th s a1 a2 s1) : MW n th s1.1 ne ev := by
  rcases h with ⟨-, e⟩ | ⟨i, -, e5, -, e⟩
  · rw [e]; exact MW.zero tw mw.2
  · rw [e]; exact (MW.zero (am := s.1) tw mw.2).hold e5
theorem ws1_now {n : Nat} {th : Nat → Int32} {s s1 : WS} {a1 a2 : Int32} (h : ws1 n th s a1 a2 s1) : s1.2.2.1 = 0 := by
  rcases h with ⟨-, e⟩ | ⟨i, -, e5, -, e⟩
  · rw [e]; rfl
  · rw [e]; rfl
theorem ws1_Out {n : Nat} {th : Nat → Int32} {s s1 : WS} {a1 a2 : Int32} (h16 : n ≤ 16) (h : ws1 n th s a1 a2 s1) : Out s s1 := by
  rcases h with ⟨-, e⟩ | ⟨i, hi, e5, -, e⟩
  · rw [e]; exact Out.rf.zero h16
  · rw [e]; exact (Out.rf.zero h16).H (by omega)
theorem ix40 {s i : Nat} (hs : s < 4) (hi : i < 40) : vp_in (nI s * (40 : Int32) + nI i) 160 ∧ (nI s * (40 : Int32) + nI i).toNatClampNeg = 40 * s + i := (ix_40 hs hi).1
set_option maxHeartbeats 1000000 in
theorem p_smiss {d : Nat} {K : Po} {σ : Hp} {n ne t sh z : Nat} {a1 a2 : Int32} {th sg ev : Nat → Int32} {s s1 : WS} (tw : TW n th sg) (cx : CX n th sg (fun j => σ.1 (3 + j))) (cs : CS n th sg ne ev s 45 σ) (mw : MW n th s.1 ne ev) (h1 : ws1 n th s a1 a2 s1) (ht : t < n) (e1 : th (20 * t) = 1) (hsh : sh < 4) (hz : σ.1 83 sh = nI z) (hz40 : z ≤ 40) (q : ∀ τ : Hp, FrC 56 σ τ → K (some (.long (sm z (msF (fun k => σ.1 84 (40 * sh + k)) (fun k => (its n th sg ne ev k s1).1 t))))) τ) : CTs (d + 6) y_SS_missWith [.ref 0, .int a1, .int a2, .int (nI t), .int (nI sh)] σ K := by
  have h16 := tw.1
  have mw1 := ws1_MW tw mw h1
  have hn1 := ws1_now h1
  have key : ∀ (c k : Nat) (τ : Hp), k + c = z → FrC 56 σ τ → CS n th sg ne ev (its n th sg ne ev (k - 1) s1) 56 τ → WP c_SS_missWith (CTs (d + 5)) K (46, [(0, .ref 0), (3, .int (nI t)), (4, .int (nI sh)), (5, .long (sm k (msF (fun k => σ.1 84 (40 * sh + k)) (fun k => (its n th sg ne ev k s1).1 t)))), (7, .int (nI k))], []) τ := by
    intro c
    induction c with
    | zero =>
      intro k τ hk f ck
      have ek : k = z := by omega
      rw [ek]
      refine t_SS_missWith_46 ⟨vp_in_nI (by omega) (by omega), ?_⟩
      rw [nI_clamp (n := sh) (by omega), f.1 83 (by omega), hz]
      exact ifp (Int32.le_refl _) (q τ f)
    | succ c ih =>
      intro k τ hk f ck
      refine t_SS_missWith_46 ⟨vp_in_nI (by omega) (by omega), ?_⟩
      obtain ⟨x1, x2⟩ := ix40 (s := sh) (i := k) hsh (by omega)
      rw [nI_clamp (n := sh) (by omega), f.1 83 (by omega), hz, x2, nI_1, nI_clamp (n := t) (by omega)]
      have go : ∀ (u : Hp), FrC 56 σ u → CS n th sg ne ev (its n th sg ne ev k s1) 56 u → vp_in (nI sh * (40 : Int32) + nI k) 160 ∧ (if u.1 84 (40 * sh + k) < 0 then (WP c_SS_missWith (CTs (d + 5)) K (46, [(0, .ref 0), (3, .int (nI t)), (4, .int (nI sh)), (5, .long (sm k (msF (fun k => σ.1 84 (40 * sh + k)) (fun k => (its n th sg ne ev k s1).1 t)))), (7, .int (nI (k + 1)))], []) u) else (vp_in (nI t) 16 ∧ (WP c_SS_missWith (CTs (d + 5)) K (46, [(0, .ref 0), (3, .int (nI t)), (4, .int (nI sh)), (5, .long (sm k (msF (fun k => σ.1 84 (40 * sh + k)) (fun k => (its n th sg ne ev k s1).1 t)) + (if 0 < ((u.1 84 (40 * sh + k)).toInt64 - (u.1 60 t).toInt64) then ((u.1 84 (40 * sh + k)).toInt64 - (u.1 60 t).toInt64) else -((u.1 84 (40 * sh + k)).toInt64 - (u.1 60 t).toInt64)))), (7, .int (nI (k + 1)))], []) u))) := by
        intro u fu cu
        have i60 : u.1 60 t = (its n th sg ne ev k s1).1 t := cu.1.2.2.2.1 t ht (Or.inl e1)
        have hs : sm (k + 1) (msF (fun k => σ.1 84 (40 * sh + k)) (fun k => (its n th sg ne ev k s1).1 t)) = sm k (msF (fun k => σ.1 84 (40 * sh + k)) (fun k => (its n th sg ne ev k s1).1 t)) + (if σ.1 84 (40 * sh + k) < 0 then 0 else absL ((σ.1 84 (40 * sh + k)).toInt64 - ((its n th sg ne ev k s1).1 t).toInt64)) := rfl
        have := ih (k + 1) u (by omega) fu cu
        rw [hs] at this
        rw [fu.1 84 (by omega), i60]
        refine ⟨x1, ite2 (fun e => ?_) (fun e => ⟨vp_in_nI (by omega) (by omega), ?_⟩)⟩
        · rw [if_pos e, Int64.add_zero] at this; exact this
        · rw [if_neg e] at this; exact this
      refine ifn (nI_ge (by omega) (by omega)) ?_
      by_cases k0 : k = 0
      · subst k0
        exact ifp (by decide) (go τ f ck)
      · refine ifn (nI_nle (by omega) (by omega)) (c_adv (Or.inr rfl) tw (cx.fr (Or.inr rfl) f) ck (its_MW tw mw1 (k - 1)) (by rw [its_now, hn1]; omega) (fun u fu cu => go u (f.tr fu) ?_))
        rw [show k = k - 1 + 1 by omega]; exact cu
  refine e_SS_missWith (t_SS_missWith_0 (c_take tw mw.2.1 cs (fun τ f ct => c_restart (s := s) (ne := ne) (ev := ev) (Or.inr rfl) tw (cx.fr (Or.inr rfl) f) mw.2 ct.1.2.1 ct.1.2.2.1 (fun u fu cu => ?_))))
  rcases h1 with ⟨ea, e⟩ | ⟨i, hi, e5, ea, e⟩
  · refine ifp ea (key z 0 u (by omega) (f.tr fu) ?_)
    rw [e]; exact cu
  · rw [ea]
    refine ifn (nI_nm1 (by omega)) (c_hold (s := ws0 n th s) (v := a2) (Or.inr rfl) tw (cx.fr (Or.inr rfl) (f.tr fu)) cu (MW.zero tw mw.2) (by show 0 < 2 ^ 20; omega) hi e5 (fun y fy cy => key z 0 y (by omega) ((f.tr fu).tr fy) ?_))
    rw [e]; exact cy
theorem ix40' {s i : Nat} (hs : s < 4) (hi : i < 40) : vp_in ((40 : Int32) * nI s + nI i) 160 ∧ ((40 : Int32) * nI s + nI i).toNatClampNeg = 40 * s + i := (ix_40 hs hi).2
set_option maxHeartbeats 1000000 in
theorem p_mmiss {d : Nat} {K : Po} {σ : Hp} {n ne t sh z : Nat} {a1 a2 : Int32} {th sg ev it : Nat → Int32} {s s1 : WS} (tw : TW n th sg) (tx : TxM n th sg ne ev σ) (ms : MS s σ) (mw : MW n th s.1 ne ev) (h1 : ws1 n th s a1 a2 s1) (ht : t < n) (hsh : sh < 4) (hz : σ.1 120 sh = nI z) (hz40 : z ≤ 40) (hit : ∀ k, k < z → σ.2 121 (40 * sh + k) = (it k).toInt64) (q : ∀ τ : Hp, FrN σ τ → τ.1 108 = σ.1 108 → MS s τ → K (some (.long (sm z (msF it (fun k => (its n th sg ne ev k s1).1 t))))) τ) : CTs (d + 6) y_M_missOf [.ref 98, .int (nI t), .int (nI sh), .int a1, .int a2] σ K := by
  have h16 := tw.1
  have mw1 := ws1_MW tw mw h1
  have hn1 := ws1_now h1
  have ho1 := ws1_Out h16 h1
  have key : ∀ (c k : Nat) (τ : Hp), k + c = z → FrN σ τ → τ.1 108 = σ.1 108 → MS (its n th sg ne ev k s1) τ → SV s τ → WP c_M_missOf (CTs (d + 5)) K (26, [(0, .ref 98), (1, .int (nI t)), (2, .int (nI sh)), (5, .long (sm k (msF it (fun k => (its n th sg ne ev k s1).1 t)))), (7, .int (nI k))], []) τ := by
    intro c
    induction c with
    | zero =>
      intro k τ hk f f8 mk sv
      have ek : k = z := by omega
      rw [ek] at mk ⊢
      refine t_M_missOf_26 ⟨vp_in_nI (by omega) (by omega), ?_⟩
      rw [nI_clamp (n := sh) (by omega), f.1 120 (by omega), hz]
      exact ifp (Int32.le_refl _) (m_back mk (its_Out tw mw1 ho1 z) sv (fun y fy y8 my => q y (f.tr fy) (y8.trans f8) my))
    | succ c ih =>
      intro k τ hk f f8 mk sv
      refine t_M_missOf_26 ⟨vp_in_nI (by omega) (by omega), ?_⟩
      obtain ⟨x1, x2⟩ := ix40' (s := sh) (i := k) hsh (by omega)
      have hs : sm (k + 1) (msF it (fun k => (its n th sg ne ev k s1).1 t)) = sm k (msF it (fun k => (its n th sg ne ev k s1).1 t)) + (if it k < 0 then 0 else absL ((it k).toInt64 - ((its n th sg ne ev k s1).1 t).toInt64)) := rfl
      rw [nI_clamp (n := sh) (by omega), f.1 120 (by omega), hz, x2, nI_1, nI_clamp (n := t) (by omega), f.2.2.1 121 (by decide) (by decide), hit k (by omega), mk.1]
      have go : ∀ x : Int64, x = (if it k < 0 then 0 else absL ((it k).toInt64 - ((its n th sg ne ev k s1).1 t).toInt64)) → CTs (d + 5) y_M_steps [.ref 98] τ (fun r2 σ2 => WP c_M_missOf (CTs (d + 5)) K (26, [(0, .ref 98), (1, .int (nI t)), (2, .int (nI sh)), (5, .long (sm k (msF it (fun k => (its n th sg ne ev k s1).1 t)) + x)), (7, .int (nI (k + 1)))], []) σ2) := by
        intro x hx
        refine m_adv tw (tx.frN f) mk (its_MW tw mw1 k) (by rw [its_now, hn1]; omega) (fun u fu mu => ?_)
        have := ih (k + 1) u (by omega) (f.tr fu.N) ((fu.1 108 (by decide) (by decide) (by decide) (by decide) (by decide) (by decide)).trans f8) mu (sv.frM fu)
        rw [hs, ← hx] at this
        exact this
      refine ifn (nI_ge (by omega) (by omega)) ⟨x1, vp_in_nI (by omega) (by omega), ite2 (fun e => ?_) (fun e => go _ ?_)⟩
      · have hp : ¬ it k < 0 := lneg.mp ((lg_cmp_ge _ _).mp e)
        refine ite2 (fun e2 => go _ ?_) (fun e2 => go _ ?_)
        · rw [if_neg hp, absL_eq, if_pos ((lg_cmp_ge _ _).mp e2)]
        · rw [if_neg hp, absL_eq, if_neg (fun z => e2 ((lg_cmp_ge _ _).mpr z))]
      · have hp : it k < 0 := Classical.byContradiction (fun z => e ((lg_cmp_ge _ _).mpr (lneg.mpr z)))
        rw [if_pos hp]
  refine e_M_missOf (t_M_missOf_0 (m_aside ms (fun τ f f8 mt sv => m_begin (s := s) h16 (tx.frN f).1 (tx.frN f).2.1 mt (fun u fu mu => ?_))))
  have u8 := (fu.1 108 (by decide) (by decide) (by decide) (by decide) (by decide) (by decide)).trans f8
  rcases h1 with ⟨ea, e⟩ | ⟨i, hi, e5, ea, e⟩
  · rw [ea]
    refine ifp (by decide) (key z 0 u (by omega) (f.tr fu.N) u8 ?_ (sv.frM fu))
    rw [e]; exact mu
  · rw [ea, nI_clamp (n := i) (by omega)]
    have fm : FrM u (sI u 105 i a2) := ⟨fun c _ h2 _ _ _ _ => by rw [sI_r, if_neg h2], fun x _ => by rw [sI_r, if_neg (by decide)], fun _ _ _ => rfl, fun _ _ _ _ => rfl⟩
    refine ifn (nI_pos (by omega)) ⟨vp_in_nI (by omega) (by omega), key z 0 _ (by omega) ((f.tr fu.N).tr fm.N) (by rw [sI_r, if_neg (by decide)]; exact u8) ?_ ((sv.frM fu).frM fm)⟩
    rw [e]
    exact ⟨by rw [sI_r, if_pos rfl, mu.1]; rfl, by rw [sI_r, if_neg (by decide)]; exact mu.2.1, by rw [sI_r, if_neg (by decide)]; exact mu.2.2.1, mu.2.2.2.1, mu.2.2.2.2.1, mu.2.2.2.2.2⟩
theorem p_lacks {d : Nat} {K : Po} {σ : Hp} {s : Nat} {x : Int32} (hs : s < 4) (hso : σ.1 119 s = -1 ∨ ∃ k, k < 4 ∧ σ.1 119 s = nI k) (q : K (some (.int (if σ.1 119 s = -1 then -11 else if σ.1 119 s = x then 0 else -13))) σ) : CTs (d + 1) y_M_lacksSort [.ref 98, .int (nI s), .int x] σ K := by
  have hv : vp_in (nI s) 4 := vp_in_nI (by omega) (by omega)
  refine e_M_lacksSort (t_M_lacksSort_0 ⟨hv, ?_⟩)
  rw [nI_clamp (n := s) (by omega)]
  rcases hso with e | ⟨k, hk, e⟩
  · rw [if_pos e] at q
    exact ifn (by rw [e]; decide) q
  · rw [if_neg (by rw [e]; exact nI_nm1 (by omega))] at q
    refine ifp (by rw [e]; exact nI_pos' (by omega)) ⟨hv, ite2 (fun e2 => ?_) (fun e2 => ?_)⟩
    · rw [if_pos e2] at q; exact q
    · rw [if_neg e2] at q; exact q
set_option maxHeartbeats 1000000 in
theorem op_miss : O_miss Rel := by
  intro σ a1 a2 h
  obtain ⟨⟨n, now, ne, hc⟩, hr, hkp⟩ := id h
  obtain ⟨a, b, c, ⟨tw, cx, mw, cw, ps, h60⟩, wl⟩ := id hc
  obtain ⟨sh, it⟩ := hr.2.2.2.1
  have h16 := tw.1
  refine e_SS_miss (t_SS_miss_0 ?_)
  rcases ixc a1 (n := n) (by omega) with z | ⟨t, ht, rfl⟩
  · exact p_has0 (Or.inl rfl) cx.n z (o0 (e_M_miss (t_M_miss_0 (p_isThing0 a h16 z (o0 ⟨rfl, h⟩)))))
  refine p_has1 (Or.inl rfl) cx.n h16 ht (o1 ?_)
  rcases ixc a2 (n := 4) (by omega) with z | ⟨s, hs, rfl⟩
  · exact p_sSheet0 z (o0 (e_M_miss (t_M_miss_0 (p_isThing1 a h16 ht (o1 (p_mShelf0 z (o0 ⟨rfl, h⟩)))))))
  refine p_sSheet1 hs (o1 ⟨vp_in_nI (by omega) (by omega), ?_⟩)
  rw [nI_clamp (n := t) (by omega), show σ.1 4 t = σ.1 99 (20 * t) from cx.k ht]
  obtain ⟨s1, s2, s3, z, hz, s4⟩ := sh s hs
  refine ite2 (fun e1 => ?_) (fun e1 => ?_)
  · by_cases hmis : σ.1 119 s = -1
    · refine e_SS_mayBe (t_SS_mayBe_0 (p_miss1 hs (s1.trans hmis) (o1 ⟨vb1, o1 (p_miss1 hs (s1.trans hmis) (o1 ?_))⟩)))
      refine e_M_miss (t_M_miss_0 (p_isThing1 a h16 ht (o1 (p_mShelf1 hs (o1 (p_of (w := 0) (by omega) (by omega) (ifp e1 (p_lacks hs s2 ?_))))))))
      rw [if_pos hmis]
      exact ifn (by decide) ⟨by decide, h⟩
    · have hv4 : vp_in (nI s) 4 := vp_in_nI (by omega) (by omega)
      refine e_SS_mayBe (t_SS_mayBe_0 (p_miss0 hs (by rw [s1]; exact hmis) (o0 ⟨hv4, ?_⟩)))
      rw [nI_clamp (n := s) (by omega), s1]
      refine ite2 (fun e2 => ⟨vb1, o1 (p_miss0 hs (by rw [s1]; exact hmis) (o0 ?_))⟩) (fun e2 => ⟨vb0, o0 ?_⟩)
      · refine p_smiss (s := wsOf σ now) (s1 := ws0 n (σ.1 99) (wsOf σ now)) tw cx hc.cs mw (Or.inl ⟨rfl, rfl⟩) ht e1 hs (s3.trans s4) hz (fun τ f => ?_)
        have fw := f.W (Or.inr rfl)
        have tx := hc.tx.frW fw
        refine e_M_miss (t_M_miss_0 (p_isThing1 tx.1 h16 ht (o1 (p_mShelf1 hs (o1 (p_of (w := 0) (by omega) (by omega) (ifp (by show τ.1 99 (20 * t) = 1; rw [tx.2.1]; exact e1) (p_lacks hs (by rw [f.1 119 (by omega)]; exact s2) ?_))))))))
        rw [f.1 119 (by omega), if_neg hmis, if_pos e2]
        refine ifp rfl (p_mmiss (s := wsOf σ now) (s1 := ws0 n (σ.1 99) (wsOf σ now)) (it := fun k => σ.1 84 (40 * s + k)) tw tx (hc.ms.frW fw) mw (Or.inl ⟨rfl, rfl⟩) ht hs (by rw [f.1 120 (by omega)]; exact s4) hz (fun k hk => by rw [f.2 121 (by decide) (by decide)]; exact it _ (by omega)) (fun y fy y8 my => ⟨rfl, Rel.th2 hc hr hkp f fy y8 my⟩))
      · refine e_M_miss (t_M_miss_0 (p_isThing1 a h16 ht (o1 (p_mShelf1 hs (o1 (p_of (w := 0) (by omega) (by omega) (ifp e1 (p_lacks hs s2 ?_))))))))
        rw [if_neg hmis, if_neg e2]
        exact ifn (by decide) ⟨by decide, h⟩
  · exact e_M_miss (t_M_miss_0 (p_isThing1 a h16 ht (o1 (p_mShelf1 hs (o1 (p_of (w := 0) (by omega) (by omega) (ifn e1 ⟨rfl, h⟩)))))))
def fitL (F : Nat → Int64) (low : Int32) : Nat → Nat → Int32 → Int64 → Int32
  | 0, _, fd, _ => fd
  | c + 1, k, fd, ms => if 0 ≤ lg_cmp (F k) ms then fitL F low c (k + 1) fd ms else fitL F low c (k + 1) (low + nI k) (F k)
set_option maxHeartbeats 1000000 in
theorem op_fit : O_fit Rel := by
  intro σ a1 a2 a3 a4 a5 h
  obtain ⟨⟨n, now, ne, hc⟩, hr, hkp⟩ := id h
  obtain ⟨a, b, c, ⟨tw, cx, mw, cw, ps, h60⟩, wl⟩ := id hc
  obtain ⟨shh, it⟩ := hr.2.2.2.1
  have h16 := tw.1
  refine e_SS_fit (t_SS_fit_0 ?_)
  rcases kdc a1 n (by omega) (σ.1 99) 5 with z | ⟨i, hi, rfl, e5⟩
  · exact p_mayTry0 cx.n h16 (Or.inl (kdcT cx z)) (o0 (e_M_fit (t_M_fit_0 (p_isKind0 a h16 z (o0 ⟨rfl, h⟩)))))
  have c5 := (cx.k hi).trans e5
  rcases kdc a4 n (by omega) (σ.1 99) 1 with z | ⟨t, ht, rfl, e1⟩
  · exact p_mayTry0 cx.n h16 (Or.inr ⟨⟨i, hi, rfl, c5⟩, Or.inl (kdcT cx z)⟩) (o0 (e_M_fit (t_M_fit_0 (p_isKind1 a h16 hi e5 (o1 (p_isKind0 a h16 z (o0 ⟨rfl, h⟩)))))))
  have c1 := (cx.k ht).trans e1
  rcases spanc a2 a3 with ⟨z1, z2⟩ | ⟨z1, z2, z3, D, hD, eD⟩
  · exact p_mayTry0 cx.n h16 (Or.inr ⟨⟨i, hi, rfl, c5⟩, Or.inr ⟨⟨t, ht, rfl, c1⟩, z1⟩⟩) (o0 (e_M_fit (t_M_fit_0 (p_isKind1 a h16 hi e5 (o1 (p_isKind1 a h16 ht e1 (o1 (p_isSpan0 z2 (o0 ⟨rfl, h⟩)))))))))
  refine p_mayTry1 cx.n h16 hi c5 ht c1 z1 z2 (o1 ?_)
  rcases ixc a5 (n := 4) (by omega) with z | ⟨s, hs, rfl⟩
  · exact p_sSheet0 z (o0 (e_M_fit (t_M_fit_0 (p_isKind1 a h16 hi e5 (o1 (p_isKind1 a h16 ht e1 (o1 (p_isSpan1 z3 z2 (o1 (p_mShelf0 z (o0 ⟨rfl, h⟩)))))))))))
  have hv4 : vp_in (nI s) 4 := vp_in_nI (by omega) (by omega)
  refine p_sSheet1 hs (o1 ⟨hv4, ?_⟩)
  obtain ⟨s1, s2, s3, z, hz, s4⟩ := shh s hs
  rw [nI_clamp (n := s) (by omega), s1]
  refine ite2 (fun e2 => ?_) (fun e2 => ?_)
  · generalize hF : (fun k => sm z (msF (fun k => σ.1 84 (40 * s + k)) (fun j => (its n (σ.1 99) (σ.1 100) ne (σ.1 107) j (wsH (ws0 n (σ.1 99) (wsOf σ now)) i (a2 + nI k))).1 t))) = F
    have F0 : sm z (msF (fun k => σ.1 84 (40 * s + k)) (fun j => (its n (σ.1 99) (σ.1 100) ne (σ.1 107) j (wsH (ws0 n (σ.1 99) (wsOf σ now)) i a2)).1 t)) = F 0 := by
      rw [← hF]
      show _ = sm z (msF (fun k => σ.1 84 (40 * s + k)) (fun j => (its n (σ.1 99) (σ.1 100) ne (σ.1 107) j (wsH (ws0 n (σ.1 99) (wsOf σ now)) i (a2 + 0))).1 t))
      rw [Int32.add_zero]
    have ek : ∀ k, sm z (msF (fun k => σ.1 84 (40 * s + k)) (fun j => (its n (σ.1 99) (σ.1 100) ne (σ.1 107) j (wsH (ws0 n (σ.1 99) (wsOf σ now)) i (a2 + nI k))).1 t)) = F k := fun k => by rw [← hF]
    have cl : ∀ (K : Po) (c k : Nat) (fd : Int32) (ms : Int64) (τ : Hp), k + c = D + 1 → FrC 56 σ τ → (∀ u, FrC 56 σ u → K (some (.int (fitL F a2 c k fd ms))) u) → WP c_SS_fit (CTs 59) K (53, [(0, .ref 0), (1, .int (nI i)), (2, .int a2), (3, .int a3), (4, .int (nI t)), (5, .int (nI s)), (6, .int fd), (7, .long ms), (9, .int (nI k))], []) τ := by
      intro K c
      induction c with
      | zero =>
        intro k fd ms τ hk f q
        refine t_SS_fit_53 ?_
        rw [eD]
        exact ifp (nI_lt (by omega) (by omega)) (q τ f)
      | succ c ih =>
        intro k fd ms τ hk f q
        have hq : ∀ u, FrC 56 σ u → K (some (.int (if 0 ≤ lg_cmp (F k) ms then fitL F a2 c (k + 1) fd ms else fitL F a2 c (k + 1) (a2 + nI k) (F k)))) u := q
        refine t_SS_fit_53 ?_
        rw [eD, nI_1]
        refine ifn (nI_nlt (by omega) (by omega)) (p_smiss (s := wsOf σ now) tw (cx.fr (Or.inr rfl) f) (hc.cs.off (fun c h1 h2 => f.1 c (by omega)) (f.2 45 (by decide) (by decide))) mw (Or.inr ⟨i, hi, e5, rfl, rfl⟩) ht e1 hs (by rw [f.1 83 (by omega)]; exact s3.trans s4) hz (fun u fu => ?_))
        rw [f.1 84 (by omega), ek k]
        refine ite2 (fun e => ih (k + 1) _ _ u (by omega) (f.tr fu) (fun y fy => ?_)) (fun e => ih (k + 1) _ _ u (by omega) (f.tr fu) (fun y fy => ?_))
        · have := hq y fy; rw [if_pos (show 0 ≤ lg_cmp (F k) ms from e)] at this; exact this
        · have := hq y fy; rw [if_neg (show ¬ 0 ≤ lg_cmp (F k) ms from e)] at this; exact this
    refine p_smiss (s := wsOf σ now) tw cx hc.cs mw (Or.inr ⟨i, hi, e5, rfl, rfl⟩) ht e1 hs (s3.trans s4) hz (fun τ f => ?_)
    rw [F0]
    refine cl _ D 1 a2 (F 0) τ (by omega) f (fun u fu => ?_)
    have fw := fu.W (Or.inr rfl)
    have tx := hc.tx.frW fw
    have S119 : u.1 119 = σ.1 119 := fw.1 119 (by omega) (by omega) (by omega)
    refine e_M_fit (t_M_fit_0 (p_isKind1 tx.1 h16 hi (by rw [tx.2.1]; exact e5) (o1 (p_isKind1 tx.1 h16 ht (by rw [tx.2.1]; exact e1) (o1 (p_isSpan1 z3 z2 (o1 (p_mShelf1 hs (o1 (p_mShelf1 hs (o1 (p_lacks hs (by rw [S119]; exact s2) ?_))))))))))))
    rw [S119, if_neg (show ¬ σ.1 119 s = -1 by rw [e2]; decide), if_pos e2]
    have mit : ∀ τ, FrN u τ → ∀ k, k < z → τ.2 121 (40 * s + k) = (σ.1 84 (40 * s + k)).toInt64 := fun τ f k hk => by rw [f.2.2.1 121 (by decide) (by decide), fw.2 121 (by omega)]; exact it _ (by omega)
    have ml : ∀ (K : Po) (c k : Nat) (fd : Int32) (ms : Int64) (τ : Hp), k + c = D + 1 → FrN u τ → τ.1 108 = u.1 108 → MS (wsOf σ now) τ → (∀ y, FrN u y → y.1 108 = u.1 108 → MS (wsOf σ now) y → K (some (.int (fitL F a2 c k fd ms))) y) → WP c_M_fit (CTs 59) K (79, [(0, .ref 98), (1, .int (nI i)), (2, .int a2), (3, .int a3), (4, .int (nI t)), (5, .int (nI s)), (6, .int fd), (7, .long ms), (9, .int (nI k))], []) τ := by
      intro K c
      induction c with
      | zero =>
        intro k fd ms τ hk f f8 mt q
        refine t_M_fit_79 ?_
        rw [eD]
        exact ifp (nI_lt (by omega) (by omega)) (q τ f f8 mt)
      | succ c ih =>
        intro k fd ms τ hk f f8 mt q
        have hq : ∀ y, FrN u y → y.1 108 = u.1 108 → MS (wsOf σ now) y → K (some (.int (if 0 ≤ lg_cmp (F k) ms then fitL F a2 c (k + 1) fd ms else fitL F a2 c (k + 1) (a2 + nI k) (F k)))) y := q
        refine t_M_fit_79 ?_
        rw [eD, nI_1]
        refine ifn (nI_nlt (by omega) (by omega)) (p_mmiss (s := wsOf σ now) (it := fun k => σ.1 84 (40 * s + k)) tw (tx.frN f) mt mw (Or.inr ⟨i, hi, e5, rfl, rfl⟩) ht hs (by rw [f.1 120 (by omega), fw.1 120 (by omega) (by omega) (by omega)]; exact s4) hz (mit τ f) (fun y fy y8 my => ?_))
        rw [ek k]
        refine ite2 (fun e => ih (k + 1) _ _ y (by omega) (f.tr fy) (y8.trans f8) my (fun x fx x8 mx => ?_)) (fun e => ih (k + 1) _ _ y (by omega) (f.tr fy) (y8.trans f8) my (fun x fx x8 mx => ?_))
        · have := hq x fx x8 mx; rw [if_pos (show 0 ≤ lg_cmp (F k) ms from e)] at this; exact this
        · have := hq x fx x8 mx; rw [if_neg (show ¬ 0 ≤ lg_cmp (F k) ms from e)] at this; exact this
    refine ifp rfl (p_mmiss (s := wsOf σ now) (it := fun k => σ.1 84 (40 * s + k)) tw tx (hc.ms.frW fw) mw (Or.inr ⟨i, hi, e5, rfl, rfl⟩) ht hs (by rw [fw.1 120 (by omega) (by omega) (by omega)]; exact s4) hz (mit u FrN.rf) (fun y fy y8 my => ?_))
    rw [F0]
    exact ml _ D 1 a2 (F 0) y (by omega) fy y8 my (fun x fx x8 mx => ⟨rfl, Rel.th2 hc hr hkp fu fx x8 mx⟩)
  · refine e_M_fit (t_M_fit_0 (p_isKind1 a h16 hi e5 (o1 (p_isKind1 a h16 ht e1 (o1 (p_isSpan1 z3 z2 (o1 (p_mShelf1 hs (o1 (p_mShelf1 hs (o1 (p_lacks hs s2 ?_))))))))))))
    by_cases hm1 : σ.1 119 s = -1
    · rw [if_pos hm1]; exact ifn (by decide) ⟨rfl, h⟩
    · rw [if_neg hm1, if_neg e2]; exact ifn (by decide) ⟨rfl, h⟩
