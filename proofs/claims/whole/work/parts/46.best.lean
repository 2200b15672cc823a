/-! ===== numbers changed in thought: pull, best ===== -/
theorem wsH_self {s : WS} {i : Nat} : wsH s i (s.1 i) = s := by
  obtain ⟨am, r⟩ := s
  show (upd am i (am i), r) = (am, r)
  have : upd am i (am i) = am := by
    funext k
    rw [upd_r]
    by_cases e : k = i
    · rw [if_pos e, e]
    · rw [if_neg e]
  rw [this]
theorem p_vb {d : Nat} {K : Po} {σ : Hp} {n ne i t m : Nat} {v : Int32} {th sg ev : Nat → Int32} {s : WS} (tw : TW n th sg) (cx : CX n th sg (fun j => σ.1 (3 + j))) (cs : CS n th sg ne ev s 45 σ) (mw : MW n th s.1 ne ev) (h60 : s.2.2.1 ≤ 60) (hm : m ≤ 60) (hi : i < n) (e5 : th (20 * i) = 5) (ht : t < n) (q : ∀ τ : Hp, FrC 56 σ τ → K (some (.int (vls n th sg (its n th sg ne ev m (wsH s i v)) t))) τ) : CTs (d + 6) y_SS_valueBehind [.ref 0, .int (nI i), .int v, .int (nI t), .int (nI m)] σ K := by
  have h16 := tw.1
  refine e_SS_valueBehind (t_SS_valueBehind_0 (c_take tw mw.2.1 cs (fun τ f ct => c_hold (v := v) (Or.inr rfl) tw (cx.fr (Or.inr rfl) f) ct mw (by omega) hi e5 (fun u fu cu => ?_))))
  have key : ∀ (c k : Nat) (τ : Hp), k + c = m → FrC 56 σ τ → CS n th sg ne ev (its n th sg ne ev k (wsH s i v)) 56 τ → WP c_SS_valueBehind (CTs (d + 5)) K (27, [(0, .ref 0), (3, .int (nI t)), (4, .int (nI m)), (5, .int (nI k))], []) τ := by
    intro c
    induction c with
    | zero =>
      intro k τ hk f cs
      have ek : k = m := by omega
      rw [ek] at cs ⊢
      refine t_SS_valueBehind_27 (ifp (Int32.le_refl _) ⟨vp_in_nI (by omega) (by omega), ?_⟩)
      rw [nI_clamp (n := t) (by omega), show τ.1 61 t = _ from cs.1.2.2.2.2.1 t ht]
      exact q τ f
    | succ c ih =>
      intro k τ hk f cs
      refine t_SS_valueBehind_27 (ifn (nI_ge (by omega) (by omega)) (c_adv (Or.inr rfl) tw (cx.fr (Or.inr rfl) f) cs (its_MW (s := wsH s i v) tw (mw.hold e5) k) (by rw [its_now]; show s.2.2.1 + k + 1 < _; omega) (fun y fy cy => ?_)))
      rw [nI_1]
      exact ih (k + 1) y (by omega) (f.tr fy) cy
  exact key m 0 u (by omega) (f.tr fu) cu
theorem its_Out {n ne : Nat} {th sg ev : Nat → Int32} {s0 s : WS} (tw : TW n th sg) (mw : MW n th s.1 ne ev) (h : Out s0 s) : ∀ k, Out s0 (its n th sg ne ev k s)
  | 0 => h
  | k + 1 => (its_Out tw mw h k).stp tw (its_MW tw mw k)
theorem p_vo {d : Nat} {K : Po} {σ : Hp} {n ne t m : Nat} {a1 a2 : Int32} {th sg ev : Nat → Int32} {s s1 : WS} (tw : TW n th sg) (tx : TxM n th sg ne ev σ) (ms : MS s σ) (mw : MW n th s.1 ne ev) (h60 : s.2.2.1 ≤ 60) (hm : m ≤ 60) (ht : t < n) (hA : (a1 < 0 ∧ s1 = s) ∨ ∃ i, i < n ∧ th (20 * i) = 5 ∧ a1 = nI i ∧ s1 = wsH s i a2) (q : ∀ τ : Hp, FrN σ τ → τ.1 108 = σ.1 108 → MS s τ → K (some (.int (vls n th sg (its n th sg ne ev m s1) t))) τ) : CTs (d + 6) y_M_valueOn [.ref 98, .int a1, .int a2, .int (nI t), .int (nI m)] σ K := by
  have h16 := tw.1
  have mw1 : MW n th s1.1 ne ev := by
    rcases hA with ⟨-, e⟩ | ⟨i, hi, e5, -, e⟩
    · rw [e]; exact mw
    · rw [e]; exact mw.hold e5
  have ho1 : Out s s1 := by
    rcases hA with ⟨-, e⟩ | ⟨i, hi, e5, -, e⟩
    · rw [e]; exact Out.rf
    · rw [e]; exact Out.rf.H (by omega)
  have hn1 : s1.2.2.1 ≤ 60 := by
    rcases hA with ⟨-, e⟩ | ⟨i, hi, e5, -, e⟩
    · rw [e]; exact h60
    · rw [e]; exact h60
  have key : ∀ (c k : Nat) (τ : Hp), k + c = m → FrN σ τ → τ.1 108 = σ.1 108 → MS (its n th sg ne ev k s1) τ → SV s τ → WP c_M_valueOn (CTs (d + 5)) K (18, [(0, .ref 98), (3, .int (nI t)), (4, .int (nI m)), (5, .int (nI k))], []) τ := by
    intro c
    induction c with
    | zero =>
      intro k τ hk f f8 mk sv
      have ek : k = m := by omega
      rw [ek] at mk ⊢
      refine t_M_valueOn_18 (ifp (Int32.le_refl _) (m_vals tw (tx.frN f) mk (by rw [its_now]; omega) (fun u fv uv => ⟨vp_in_nI (by omega) (by omega), m_back (fv.ms mk) (its_Out tw mw1 ho1 m) (sv.frM fv.M) (fun y fy y8 my => ?_)⟩)))
      rw [nI_clamp (n := t) (by omega), uv t ht]
      exact q y ((f.tr fv.M.N).tr fy) ((y8.trans (fv.2 108 (by decide) (by decide) (by decide))).trans f8) my
    | succ c ih =>
      intro k τ hk f f8 mk sv
      refine t_M_valueOn_18 (ifn (nI_ge (by omega) (by omega)) (m_adv tw (tx.frN f) mk (its_MW tw mw1 k) (by rw [its_now]; omega) (fun u fu mu => ?_)))
      rw [nI_1]
      exact ih (k + 1) u (by omega) (f.tr fu.N) ((fu.1 108 (by decide) (by decide) (by decide) (by decide) (by decide) (by decide)).trans f8) mu (sv.frM fu)
  refine e_M_valueOn (t_M_valueOn_0 (m_aside ms (fun τ f f8 mt sv => ?_)))
  rcases hA with ⟨hl, e⟩ | ⟨i, hi, e5, ea, e⟩
  · refine ifp hl (key m 0 τ (by omega) f f8 ?_ sv)
    rw [e]; exact mt
  · rw [ea, nI_clamp (n := i) (by omega)]
    have fm : FrM τ (sI τ 105 i a2) := ⟨fun c _ h2 _ _ _ _ => by rw [sI_r, if_neg h2], fun x _ => by rw [sI_r, if_neg (by decide)], fun _ _ _ => rfl, fun _ _ _ _ => rfl⟩
    refine ifn (nI_pos (by omega)) ⟨vp_in_nI (by omega) (by omega), key m 0 _ (by omega) (f.tr fm.N) (by rw [sI_r, if_neg (by decide)]; exact f8) ?_ (sv.frM fm)⟩
    rw [e]
    exact ⟨by rw [sI_r, if_pos rfl, mt.1]; rfl, by rw [sI_r, if_neg (by decide)]; exact mt.2.1, by rw [sI_r, if_neg (by decide)]; exact mt.2.2.1, mt.2.2.2.1, mt.2.2.2.2.1, mt.2.2.2.2.2⟩
/-- behind thought on both sides -/
theorem Rel.th2 {σ τ u : Hp} {n now ne : Nat} (hc : RCore σ n now ne) (hr : RRest σ) (hk : RKept σ) (f : FrC 56 σ τ) (fn : FrN τ u) (f108 : u.1 108 = τ.1 108) (ms : MS (wsOf σ now) u) : Rel u := Rel.thought hc hr hk (f.W (Or.inr rfl)) (fun c h1 h2 => f.1 c (by omega)) (f.2 45 (by decide) (by decide)) (f.1 78 (by omega)) fn f108 ms
theorem n60 {a : Int32} (h : ¬ (a < 0 ∨ 60 < a)) : ∃ m, m ≤ 60 ∧ a = nI m := nI_of2 (M := 60) (n := 60) (by decide) (fun z => h (Or.inl z)) (Int32.not_lt.mp (fun z => h (Or.inr z)))
theorem op_pull : O_pull Rel := by
  intro σ a1 a2 a3 a4 h
  obtain ⟨⟨n, now, ne, hc⟩, hr, hkp⟩ := id h
  obtain ⟨a, b, c, ⟨tw, cx, mw, cw, ps, h60⟩, wl⟩ := id hc
  have h16 := tw.1
  refine e_SS_pull (t_SS_pull_0 ?_)
  rcases kdc a1 n (by omega) (σ.1 99) 5 with z | ⟨i, hi, rfl, e5⟩
  · exact p_is0 cx.n h16 (kdcT cx z) (o0 (e_M_pull (t_M_pull_0 (p_isKind0 a h16 z (o0 ⟨rfl, h⟩)))))
  refine p_is1 cx.n h16 hi ((cx.k hi).trans e5) (o1 ?_)
  rcases ixc a3 (n := n) (by omega) with z | ⟨t, ht, rfl⟩
  · exact p_has0 (Or.inl rfl) cx.n z (o0 (e_M_pull (t_M_pull_0 (p_isKind1 a h16 hi e5 (o1 (p_isThing0 a h16 z (o0 ⟨rfl, h⟩)))))))
  refine p_has1 (Or.inl rfl) cx.n h16 ht (o1 ?_)
  by_cases hin : a4 < 0 ∨ 60 < a4
  · have hm : CTs 60 y_M_pull [.ref 98, .int (nI i), .int a2, .int (nI t), .int a4] σ (fun r' σ2 => oI (some (.int (-2147483648 : Int32))) = oI r' ∧ Rel σ2) := e_M_pull (t_M_pull_0 (p_isKind1 a h16 hi e5 (o1 (p_isThing1 a h16 ht (o1 (p_in0 hin (o0 ⟨rfl, h⟩)))))))
    refine ite2 (fun _ => hm) (fun h1 => ifn ?_ hm)
    rcases hin with z | z
    · exact absurd z h1
    · exact Int32.not_le.mpr z
  obtain ⟨m, hm, rfl⟩ := n60 hin
  have h49 : σ.1 49 i = σ.1 105 i := cw.2.2.2.1 i hi (Or.inr e5)
  have hv : vp_in (nI i) 16 := vp_in_nI (by omega) (by omega)
  rw [nI_clamp (n := i) (by omega), h49]
  refine ifn (nI_pos (by omega)) (ifp (nI_le (b := 60) hm (by omega)) ⟨hv, p_vb (s := wsOf σ now) tw cx hc.cs mw h60 hm hi e5 ht (fun τ f => p_vb (s := wsOf σ now) tw (cx.fr (Or.inr rfl) f) (hc.cs.off (fun c h1 h2 => f.1 c (by omega)) (f.2 45 (by decide) (by decide))) mw h60 hm hi e5 ht (fun u fu => ?_))⟩)
  have fw := (f.tr fu).W (Or.inr rfl)
  have tx := hc.tx.frW fw
  refine e_M_pull (t_M_pull_0 (p_isKind1 tx.1 h16 hi (by rw [tx.2.1]; exact e5) (o1 (p_isThing1 tx.1 h16 ht (o1 (p_in1 (nI_pos (by omega)) (nI_nlt (a := 60) hm (by omega)) (o1 ⟨hv, ?_⟩)))))))
  rw [nI_clamp (n := i) (by omega), fw.1 105 (by omega) (by omega) (by omega)]
  refine p_vo (s := wsOf σ now) tw tx (hc.ms.frW fw) mw h60 hm ht (Or.inr ⟨i, hi, e5, rfl, rfl⟩) (fun y fy y8 my => p_vo (s := wsOf σ now) (s1 := wsOf σ now) tw (tx.frN fy) my mw h60 hm ht (Or.inl ⟨by decide, rfl⟩) (fun x fx x8 mx => ⟨?_, Rel.th2 hc hr hkp (f.tr fu) (fy.tr fx) (x8.trans y8) mx⟩))
  have e := wsH_self (s := wsOf σ now) (i := i)
  rw [show (wsOf σ now).1 i = σ.1 105 i from rfl] at e
  rw [e]
/-! ===== spans ===== -/
theorem sub64 (x y : Int32) : (x.toInt64 - y.toInt64).toInt = x.toInt - y.toInt := by
  have h1 := Int32.toInt_lt x
  have h2 := Int32.le_toInt x
  have h3 := Int32.toInt_lt y
  have h4 := Int32.le_toInt y
  rw [Int64.toInt_sub, Int32.toInt_toInt64, Int32.toInt_toInt64]
  exact Int.bmod_eq_of_le (by omega) (by omega)
theorem spanc (lo hi : Int32) : ((lg_cmp (hi.toInt64 - lo.toInt64) 0 < 0 ∨ 0 < lg_cmp (hi.toInt64 - lo.toInt64) 20) ∧ (hi < lo ∨ 0 < lg_cmp (hi.toInt64 - lo.toInt64) 20)) ∨ (¬ lg_cmp (hi.toInt64 - lo.toInt64) 0 < 0 ∧ ¬ 0 < lg_cmp (hi.toInt64 - lo.toInt64) 20 ∧ ¬ hi < lo ∧ ∃ D, D ≤ 20 ∧ hi - lo = nI D) := by
  have e := sub64 hi lo
  have z0 : (0 : Int64).toInt = 0 := by decide
  have z20 : (20 : Int64).toInt = 20 := by decide
  rw [lg_cmp_lt, lg_cmp_gt, Int64.lt_iff_toInt_lt, Int64.lt_iff_toInt_lt, Int32.lt_iff_toInt_lt, e, z0, z20]
  by_cases h : hi.toInt - lo.toInt < 0 ∨ 20 < hi.toInt - lo.toInt
  · left
    refine ⟨h, ?_⟩
    rcases h with h | h
    · left; omega
    · right; exact h
  · right
    refine ⟨fun z => h (Or.inl z), fun z => h (Or.inr z), by omega, (hi.toInt - lo.toInt).toNat, by omega, ?_⟩
    apply Int32.toInt_inj.mp
    rw [Int32.toInt_sub, nI_toInt (by omega), Int.bmod_eq_of_le (by omega) (by omega)]
    omega
theorem p_mayTry0 {d : Nat} {K : Po} {σ : Hp} {n : Nat} {a1 a2 a3 a4 : Int32} (hn : σ.1 3 0 = nI n) (h16 : n ≤ 16) (h : (nIx a1 n ∨ ∃ j, j < n ∧ a1 = nI j ∧ ¬ σ.1 4 j = 5) ∨ (∃ i, i < n ∧ a1 = nI i ∧ σ.1 4 i = 5) ∧ ((nIx a4 n ∨ ∃ j, j < n ∧ a4 = nI j ∧ ¬ σ.1 4 j = 1) ∨ (∃ j, j < n ∧ a4 = nI j ∧ σ.1 4 j = 1) ∧ (lg_cmp (a3.toInt64 - a2.toInt64) 0 < 0 ∨ 0 < lg_cmp (a3.toInt64 - a2.toInt64) 20))) (q : K (some (.int 0)) σ) : CTs (d + 3) y_SS_mayTry [.ref 0, .int a1, .int a2, .int a3, .int a4] σ K := by
  refine e_SS_mayTry (t_SS_mayTry_0 ?_)
  rcases h with h | ⟨⟨i, hi, rfl, e⟩, h⟩
  · exact p_is0 hn h16 h (o0 ⟨vb0, q⟩)
  · refine p_is1 hn h16 hi e (o1 ?_)
    rcases h with h | ⟨⟨j, hj, rfl, e2⟩, h⟩
    · exact p_is0 hn h16 h (o0 ⟨vb0, q⟩)
    · refine p_is1 hn h16 hj e2 (o1 (ite2 (fun _ => ⟨vb0, q⟩) (fun z => ifp ?_ ⟨vb0, q⟩)))
      rcases h with h | h
      · exact absurd h z
      · exact h
theorem p_mayTry1 {d : Nat} {K : Po} {σ : Hp} {n i t : Nat} {a2 a3 : Int32} (hn : σ.1 3 0 = nI n) (h16 : n ≤ 16) (hi : i < n) (e5 : σ.1 4 i = 5) (ht : t < n) (e1 : σ.1 4 t = 1) (h1 : ¬ lg_cmp (a3.toInt64 - a2.toInt64) 0 < 0) (h2 : ¬ 0 < lg_cmp (a3.toInt64 - a2.toInt64) 20) (q : K (some (.int 1)) σ) : CTs (d + 3) y_SS_mayTry [.ref 0, .int (nI i), .int a2, .int a3, .int (nI t)] σ K := e_SS_mayTry (t_SS_mayTry_0 (p_is1 hn h16 hi e5 (o1 (p_is1 hn h16 ht e1 (o1 (ifn h1 (ifn h2 ⟨vb1, q⟩)))))))
theorem p_isSpan0 {d : Nat} {K : Po} {σ : Hp} {a2 a3 : Int32} (h : a3 < a2 ∨ 0 < lg_cmp (a3.toInt64 - a2.toInt64) 20) (q : K (some (.int 0)) σ) : CTs (d + 1) y_M_isSpan [.int a2, .int a3] σ K := by
  refine e_M_isSpan (t_M_isSpan_0 (ite2 (fun _ => ⟨vb0, q⟩) (fun z => ifp ?_ ⟨vb0, q⟩)))
  rcases h with h | h
  · exact absurd h z
  · exact h
theorem p_isSpan1 {d : Nat} {K : Po} {σ : Hp} {a2 a3 : Int32} (h1 : ¬ a3 < a2) (h2 : ¬ 0 < lg_cmp (a3.toInt64 - a2.toInt64) 20) (q : K (some (.int 1)) σ) : CTs (d + 1) y_M_isSpan [.int a2, .int a3] σ K := e_M_isSpan (t_M_isSpan_0 (ifn h1 (ifn h2 ⟨vb1, q⟩)))
/-! ===== best ===== -/
def bst (F : Nat → Int32) (low : Int32) : Nat → Nat → Int32 → Int32 → Int32
  | 0, _, fd, _ => fd
  | c + 1, k, fd, ms => if F k ≤ ms then bst F low c (k + 1) fd ms else bst F low c (k + 1) (low + nI k) (F k)
theorem its_st {n ne t : Nat} {th sg ev : Nat → Int32} {s : WS} (tw : TW n th sg) (mw : MW n th s.1 ne ev) (ht : t < n) (e1 : th (20 * t) = 1) (m : Nat) : ¬ vls n th sg (its n th sg ne ev m s) t ≤ -1 := by
  obtain ⟨x, hx, e⟩ := (its_MW (sg := sg) tw mw m).1 t ht e1
  unfold vls
  rw [vto_st tw ht (Or.inl e1), e]
  intro z
  rw [Int32.le_iff_toInt_le, nI_toInt (by omega), show (-1 : Int32).toInt = -1 from rfl] at z
  omega
theorem op_best : O_best Rel := by
  intro σ a1 a2 a3 a4 a5 h
  obtain ⟨⟨n, now, ne, hc⟩, hr, hkp⟩ := id h
  obtain ⟨a, b, c, ⟨tw, cx, mw, cw, ps, h60⟩, wl⟩ := id hc
  have h16 := tw.1
  refine e_SS_best (t_SS_best_0 ?_)
  rcases kdc a1 n (by omega) (σ.1 99) 5 with z | ⟨i, hi, rfl, e5⟩
  · exact p_mayTry0 cx.n h16 (Or.inl (kdcT cx z)) (o0 (e_M_best (t_M_best_0 (p_isKind0 a h16 z (o0 ⟨rfl, h⟩)))))
  have c5 := (cx.k hi).trans e5
  rcases kdc a4 n (by omega) (σ.1 99) 1 with z | ⟨t, ht, rfl, e1⟩
  · exact p_mayTry0 cx.n h16 (Or.inr ⟨⟨i, hi, rfl, c5⟩, Or.inl (kdcT cx z)⟩) (o0 (e_M_best (t_M_best_0 (p_isKind1 a h16 hi e5 (o1 (p_isKind0 a h16 z (o0 ⟨rfl, h⟩)))))))
  have c1 := (cx.k ht).trans e1
  rcases spanc a2 a3 with ⟨z1, z2⟩ | ⟨z1, z2, z3, D, hD, eD⟩
  · exact p_mayTry0 cx.n h16 (Or.inr ⟨⟨i, hi, rfl, c5⟩, Or.inr ⟨⟨t, ht, rfl, c1⟩, z1⟩⟩) (o0 (e_M_best (t_M_best_0 (p_isKind1 a h16 hi e5 (o1 (p_isKind1 a h16 ht e1 (o1 (p_isSpan0 z2 (o0 ⟨rfl, h⟩)))))))))
  refine p_mayTry1 cx.n h16 hi c5 ht c1 z1 z2 (o1 ?_)
  by_cases hin : a5 < 0 ∨ 60 < a5
  · have hm : CTs 60 y_M_best [.ref 98, .int (nI i), .int a2, .int a3, .int (nI t), .int a5] σ (fun r' σ2 => oI (some (.int (-2147483648 : Int32))) = oI r' ∧ Rel σ2) := e_M_best (t_M_best_0 (p_isKind1 a h16 hi e5 (o1 (p_isKind1 a h16 ht e1 (o1 (p_isSpan1 z3 z2 (o1 (p_in0 hin (o0 ⟨rfl, h⟩)))))))))
    refine ite2 (fun _ => hm) (fun h1 => ifn ?_ hm)
    rcases hin with z | z
    · exact absurd z h1
    · exact Int32.not_le.mpr z
  obtain ⟨m, hm, rfl⟩ := n60 hin
  refine ifn (nI_pos (by omega)) (ifp (nI_le (b := 60) hm (by omega)) (p_vb (s := wsOf σ now) tw cx hc.cs mw h60 hm hi e5 ht (fun τ f => ?_)))
  generalize hF : (fun k => vls n (σ.1 99) (σ.1 100) (its n (σ.1 99) (σ.1 100) ne (σ.1 107) m (wsH (wsOf σ now) i (a2 + nI k))) t) = F
  have F0 : vls n (σ.1 99) (σ.1 100) (its n (σ.1 99) (σ.1 100) ne (σ.1 107) m (wsH (wsOf σ now) i a2)) t = F 0 := by rw [← hF]; show _ = vls n (σ.1 99) (σ.1 100) (its n (σ.1 99) (σ.1 100) ne (σ.1 107) m (wsH (wsOf σ now) i (a2 + 0))) t; rw [Int32.add_zero]
  have cl : ∀ (K : Po) (c k : Nat) (fd ms : Int32) (τ : Hp), k + c = D + 1 → FrC 56 σ τ → (∀ u, FrC 56 σ u → K (some (.int (bst F a2 c k fd ms))) u) → WP c_SS_best (CTs 59) K (45, [(0, .ref 0), (1, .int (nI i)), (2, .int a2), (3, .int a3), (4, .int (nI t)), (5, .int (nI m)), (6, .int fd), (7, .int ms), (8, .int (nI k))], []) τ := by
    intro K c
    induction c with
    | zero =>
      intro k fd ms τ hk f q
      refine t_SS_best_45 ?_
      rw [eD]
      exact ifp (nI_lt (by omega) (by omega)) (q τ f)
    | succ c ih =>
      intro k fd ms τ hk f q
      have hq : ∀ u, FrC 56 σ u → K (some (.int (if F k ≤ ms then bst F a2 c (k + 1) fd ms else bst F a2 c (k + 1) (a2 + nI k) (F k)))) u := q
      refine t_SS_best_45 ?_
      rw [eD, nI_1]
      refine ifn (nI_nlt (by omega) (by omega)) (p_vb (s := wsOf σ now) tw (cx.fr (Or.inr rfl) f) (hc.cs.off (fun c h1 h2 => f.1 c (by omega)) (f.2 45 (by decide) (by decide))) mw h60 hm hi e5 ht (fun u fu => ?_))
      have ek : vls n (σ.1 99) (σ.1 100) (its n (σ.1 99) (σ.1 100) ne (σ.1 107) m (wsH (wsOf σ now) i (a2 + nI k))) t = F k := by rw [← hF]
      rw [ek]
      refine ite2 (fun e => ih (k + 1) _ _ u (by omega) (f.tr fu) (fun y fy => ?_)) (fun e => ih (k + 1) _ _ u (by omega) (f.tr fu) (fun y fy => ?_))
      · have := hq y fy; rw [if_pos (show F k ≤ ms from e)] at this; exact this
      · have := hq y fy; rw [if_neg (show ¬ F k ≤ ms from e)] at this; exact this
  rw [F0]
  refine cl _ D 1 a2 (F 0) τ (by omega) f (fun u fu => ?_)
  have fw := fu.W (Or.inr rfl)
  have tx := hc.tx.frW fw
  refine e_M_best (t_M_best_0 (p_isKind1 tx.1 h16 hi (by rw [tx.2.1]; exact e5) (o1 (p_isKind1 tx.1 h16 ht (by rw [tx.2.1]; exact e1) (o1 (p_isSpan1 z3 z2 (o1 (p_in1 (nI_pos (by omega)) (nI_nlt (a := 60) hm (by omega)) (o1 ?_)))))))))
  have ml : ∀ (K : Po) (c k : Nat) (fd ms : Int32) (τ : Hp), k + c = D + 1 → FrN u τ → τ.1 108 = u.1 108 → MS (wsOf σ now) τ → (∀ y, FrN u y → y.1 108 = u.1 108 → MS (wsOf σ now) y → K (some (.int (bst F a2 c k fd ms))) y) → WP c_M_best (CTs 59) K (51, [(0, .ref 98), (1, .int (nI i)), (2, .int a2), (3, .int a3), (4, .int (nI t)), (5, .int (nI m)), (6, .int fd), (7, .int ms), (8, .int (nI k))], []) τ := by
    intro K c
    induction c with
    | zero =>
      intro k fd ms τ hk f f8 mt q
      refine t_M_best_51 ?_
      rw [eD]
      exact ifp (nI_lt (by omega) (by omega)) (q τ f f8 mt)
    | succ c ih =>
      intro k fd ms τ hk f f8 mt q
      have hq : ∀ y, FrN u y → y.1 108 = u.1 108 → MS (wsOf σ now) y → K (some (.int (if F k ≤ ms then bst F a2 c (k + 1) fd ms else bst F a2 c (k + 1) (a2 + nI k) (F k)))) y := q
      refine t_M_best_51 ?_
      rw [eD, nI_1]
      refine ifn (nI_nlt (by omega) (by omega)) (p_vo (s := wsOf σ now) tw (tx.frN f) mt mw h60 hm ht (Or.inr ⟨i, hi, e5, rfl, rfl⟩) (fun y fy y8 my => ?_))
      have ek : vls n (σ.1 99) (σ.1 100) (its n (σ.1 99) (σ.1 100) ne (σ.1 107) m (wsH (wsOf σ now) i (a2 + nI k))) t = F k := by rw [← hF]
      rw [ek]
      refine ite2 (fun e => ih (k + 1) _ _ y (by omega) (f.tr fy) (y8.trans f8) my (fun x fx x8 mx => ?_)) (fun e => ih (k + 1) _ _ y (by omega) (f.tr fy) (y8.trans f8) my (fun x fx x8 mx => ?_))
      · have := hq x fx x8 mx; rw [if_pos (show F k ≤ ms from e)] at this; exact this
      · have := hq x fx x8 mx; rw [if_neg (show ¬ F k ≤ ms from e)] at this; exact this
  refine ml _ (D + 1) 0 a2 (-1) u (by omega) FrN.rf rfl (hc.ms.frW fw) (fun y fy y8 my => ⟨?_, Rel.th2 hc hr hkp fu fy y8 my⟩)
  show bst F a2 D 1 a2 (F 0) = (if F 0 ≤ -1 then bst F a2 D 1 a2 (-1) else bst F a2 D 1 (a2 + nI 0) (F 0))
  rw [if_neg, show nI 0 = (0 : Int32) from rfl, Int32.add_zero]
  rw [← F0]
  exact its_st tw (mw.hold e5) ht e1 m
