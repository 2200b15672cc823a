/-! ===== read: both sides ===== -/
theorem sw_lo {x : Nat} (h1 : 3 ≤ x) (h2 : x ≤ 16) : sw x = x + 14 := (by decide : ∀ x, x ≤ 16 → 3 ≤ x → sw x = x + 14) x h2 h1
theorem read_ok {b : Nat → Nat} {m n c j j' now : Nat} {ρ : Rho} {σ τ1 u w : Hp} {th sg : Nat → Int32} {Q : Po}
    (v : VL ρ n c j) (cl : CLs ρ n c [] τ1) (lay : Lay ρ n th sg) (hkp : RKept σ) (hr : RRest σ)
    (cs : CS n th sg 0 (σ.1 107) (ws0 n th (wsOf σ now)) 45 u)
    (hnow : σ.1 98 19 = nI now)
    (uk : SameK σ u) (uq : SameQ σ u) (u3 : ∀ a, a ≤ 12 → u.1 (3 + a) = τ1.1 (17 + a)) (u1 : u.1 1 1 = 0 ∧ u.1 1 2 = 0 ∧ u.1 1 3 = 0) (u0 : u.1 0 10 = 0) (ur : ∀ a, 98 ≤ a → u.1 a = σ.1 a) (ul : ∀ a, 98 ≤ a → u.2 a = σ.2 a)
    (mb : MBt b m u ρ n c j' w)
    (q : ∀ z : Hp, z.1 98 0 = nI n → Rel z → Q (some (.int (z.1 98 0))) z) : WP c_M_read (CTs 11) Q (80, [(0, .ref 98), (1, .int 0)], []) (sI (sI w 98 4 0) 98 0 (nI n)) := by
  obtain ⟨⟨fr, tpm, g10, g11, mt⟩, m12, m14, rows, -⟩ := mb
  have tw := lay_TW v lay
  have w0 : (sI (sI w 98 4 0) 98 0 (nI n)).1 98 0 = nI n := by rw [sI_r, if_pos rfl, upd_r, if_pos rfl]
  have w4 : (sI (sI w 98 4 0) 98 0 (nI n)).1 98 4 = 0 := by rw [sI_r, if_pos rfl, upd_r, if_neg (by decide), sI_r, if_pos rfl, upd_r, if_pos rfl]
  have wx : ∀ x, x ≠ 0 → x ≠ 4 → (sI (sI w 98 4 0) 98 0 (nI n)).1 98 x = w.1 98 x := fun x x0 x4 => by rw [sI_r, if_pos rfl, upd_r, if_neg x0, sI_r, if_pos rfl, upd_r, if_neg x4]
  have wa : ∀ a, a ≠ 98 → (sI (sI w 98 4 0) 98 0 (nI n)).1 a = w.1 a := fun a ha => by rw [sI_r, if_neg ha, sI_r, if_neg ha]
  have wl : (sI (sI w 98 4 0) 98 0 (nI n)).2 = w.2 := rfl
  have wk : SameK σ (sI (sI w 98 4 0) 98 0 (nI n)) := ((uk.tr (fr.G (by decide) (by decide) (by decide) (by decide))).sI (by decide)).sI (by decide)
  have wq : SameQ σ (sI (sI w 98 4 0) 98 0 (nI n)) := ((uq.tr (fr.G (by decide) (by decide) (by decide) (by decide))).sI (by decide)).sI (by decide)
  generalize sI (sI w 98 4 0) 98 0 (nI n) = w1 at w0 w4 wx wa wl wk wq ⊢
  have fx : ∀ x, x ≠ 5 → x ≠ 6 → x ≠ 7 → x ≠ 9 → x ≠ 10 → x ≠ 11 → x ≠ 12 → x ≠ 14 → x ≠ 17 → x ≠ 18 → w.1 98 x = u.1 98 x := fr.2.1
  refine p_copyM v.1 v.c300 w0 ((wx 14 (by decide) (by decide)).trans m14) (fun y y1 y2 y3 y4 => ?_)
  rw [wa 102 (by decide)] at y3
  rw [wa 103 (by decide)] at y4
  have lay' := lay_cp v rows y3 y4
  have ag := lay_ag v lay lay'
  have tw' := lay_TW v lay'
  have h98 : y.1 98 = w1.1 98 := y1 98 (by decide) (by decide)
  have z43 : (sI (sI y 98 25 0) 98 43 0).1 98 43 = 0 := by rw [sI_r, if_pos rfl, upd_r, if_pos rfl]
  have z25 : (sI (sI y 98 25 0) 98 43 0).1 98 25 = 0 := by rw [sI_r, if_pos rfl, upd_r, if_neg (by decide), sI_r, if_pos rfl, upd_r, if_pos rfl]
  have zx : ∀ x, x ≠ 25 → x ≠ 43 → (sI (sI y 98 25 0) 98 43 0).1 98 x = w1.1 98 x := fun x x2 x4 => by rw [sI_r, if_pos rfl, upd_r, if_neg x4, sI_r, if_pos rfl, upd_r, if_neg x2, h98]
  have za : ∀ a, a ≠ 98 → (sI (sI y 98 25 0) 98 43 0).1 a = y.1 a := fun a ha => by rw [sI_r, if_neg ha, sI_r, if_neg ha]
  have zl : (sI (sI y 98 25 0) 98 43 0).2 = w.2 := y2.trans wl
  have ys : ∀ {r : List Nat} {f : List (Nat × Nat)} {lr : List Nat} {lf : List (Nat × Nat)}, (∀ c ∈ r, c ≠ 99 ∧ c ≠ 100) → (∀ q ∈ f, q.1 ≠ 99 ∧ q.1 ≠ 100) → SameG r f lr lf w1 y := fun h1 h2 => SameG.of (fun c hc => y1 c (h1 c hc).1 (h1 c hc).2) (fun q hq => by rw [y1 q.1 (h2 q hq).1 (h2 q hq).2]) y2
  have zk : SameK σ (sI (sI y 98 25 0) 98 43 0) := ((wk.tr (ys (by decide) (by decide))).sI (by decide)).sI (by decide)
  have zq : SameQ σ (sI (sI y 98 25 0) 98 43 0) := ((wq.tr (ys (by decide) (by decide))).sI (by decide)).sI (by decide)
  generalize sI (sI y 98 25 0) 98 43 0 = H at z43 z25 zx za zl zk zq ⊢
  have Ha : ∀ a, a ≠ 98 → a ≠ 99 → a ≠ 100 → a ≠ 102 → a ≠ 103 → a ≠ 104 → H.1 a = u.1 a := fun a h1 h2 h3 h4 h5 h6 => by rw [za a h1, y1 a h2 h3, wa a h1]; exact fr.1 a h1 h4 h5 h6
  have hms : MS (wsOf σ now) H := by
    refine ⟨?_, ?_, ?_, ?_, ?_, ?_⟩
    · rw [Ha 105 (by decide) (by decide) (by decide) (by decide) (by decide) (by decide)]; exact ur 105 (by omega)
    · rw [Ha 106 (by decide) (by decide) (by decide) (by decide) (by decide) (by decide)]; exact ur 106 (by omega)
    · rw [zx 19 (by decide) (by decide), wx 19 (by decide) (by decide), fx 19 (by decide) (by decide) (by decide) (by decide) (by decide) (by decide) (by decide) (by decide) (by decide) (by decide), ur 98 (by omega)]; exact hnow
    · rw [zl, fr.2.2.2 22 (by decide), ul 98 (by omega)]; rfl
    · rw [zl, fr.2.2.2 23 (by decide), ul 98 (by omega)]; rfl
    · rw [zl, fr.2.2.2 24 (by decide), ul 98 (by omega)]; rfl
  refine e_M_beginAll (t_M_beginAll_0 (m_begin (s := wsOf σ now) (th := y.1 99) v.1 ((zx 0 (by decide) (by decide)).trans w0) (za 99 (by decide)) hms (fun z fm ms => ?_)))
  have zn : z.1 98 0 = nI n := (fm.2.1 0 (by decide)).trans ((zx 0 (by decide) (by decide)).trans w0)
  have Za : ∀ a, a < 98 → z.1 a = u.1 a := fun a h => by rw [fm.1 a (by omega) (by omega) (by omega) (by omega) (by omega) (by omega)]; exact Ha a (by omega) (by omega) (by omega) (by omega) (by omega) (by omega)
  have cs' : CS n (y.1 99) (y.1 100) 0 (σ.1 107) (ws0 n (y.1 99) (wsOf σ now)) 45 u := by
    refine ⟨?_, cs.2⟩
    show CW n (y.1 99) (y.1 100) (am0 n (y.1 99) (σ.1 105)) (σ.1 106) 0 0 (σ.1 107) (fun j => u.1 (45 + j))
    rw [am0_at ag]
    exact CW_at tw ag cs.1
  refine q z zn ⟨⟨n, 0, 0, RCore.of (th := y.1 99) (sg := y.1 100) (ev := σ.1 107) (s := ws0 n (y.1 99) (wsOf σ now)) ⟨zn, ?_, ?_, ?_, ?_⟩ ms (cs'.off (fun c h1 h2 => Za c (by omega)) ?_) tw' (lay_CX v lay' cl (fun a ha => ?_)) (MW.zero tw' ⟨by omega, fun e he => absurd he (by omega)⟩) (fun x i hx => absurd hx (by show ¬ x < 0; omega)) (by show 0 ≤ 60; omega)⟩, hr.tp (zq.tr (SameQ.of fm.N.R)) ?_ ?_ ?_ ?_ (Or.inr ⟨?_, ?_⟩), hkp.same (zk.tr fm.N.K)⟩
  · rw [fm.1 99 (by decide) (by decide) (by decide) (by decide) (by decide) (by decide)]; exact za 99 (by decide)
  · rw [fm.1 100 (by decide) (by decide) (by decide) (by decide) (by decide) (by decide)]; exact za 100 (by decide)
  · rw [fm.2.1 25 (by decide)]; exact z25
  · rw [fm.1 107 (by decide) (by decide) (by decide) (by decide) (by decide) (by decide), Ha 107 (by decide) (by decide) (by decide) (by decide) (by decide) (by decide)]; exact ur 107 (by omega)
  · rw [fm.2.2.1 45 (by decide) (by decide), zl]; exact fr.2.2.1 45 (by decide)
  · show z.1 (3 + a) = τ1.1 (17 + a)
    rw [Za (3 + a) (by omega)]; exact u3 a ha
  · rw [Za 1 (by omega)]; exact u1.1
  · rw [fm.2.1 4 (by decide), zx 4 (by decide) (by decide)]; exact w4
  · rw [Za 1 (by omega), fm.2.1 10 (by decide), zx 10 (by decide) (by decide), wx 10 (by decide) (by decide), g10]; exact u1.2.1
  · rw [Za 1 (by omega), fm.2.1 11 (by decide), zx 11 (by decide) (by decide), wx 11 (by decide) (by decide), g11]; exact u1.2.2
  · rw [Za 0 (by omega)]; exact u0
  · rw [fm.2.1 43 (by decide)]; exact z43
theorem op_read : O_read Rel := by
  intro σ h
  obtain ⟨⟨n0, now, ne, hc⟩, hr, hkp⟩ := id h
  obtain ⟨⟨m, hm, t1, t2, tb⟩, hf, hrw, hsh, hsf, hdo⟩ := id hr
  have tC : TpC (fun k => sN (σ.1 101 k)) m σ := ⟨hm, t1, fun k hk => by
    obtain ⟨e, b, hb, eb⟩ := tb k hk
    show σ.1 2 k = nI (sN (σ.1 101 k)) ∧ sN (σ.1 101 k) < 256
    rw [e, eb, sN_nI (by omega)]
    exact ⟨rfl, hb⟩⟩
  have tM : TpM (fun k => sN (σ.1 101 k)) m σ := ⟨hm, t2, fun k hk => by
    obtain ⟨e, b, hb, eb⟩ := tb k hk
    show σ.1 101 k = nI (sN (σ.1 101 k)) ∧ sN (σ.1 101 k) < 256
    rw [eb, sN_nI (by omega)]
    exact ⟨rfl, hb⟩⟩
  generalize (fun k => sN (σ.1 101 k)) = b at tC tM
  unfold RDs
  refine cts_up (d := 35) (by omega) (p_writeC tC (fun n ρ c hp j τ1 v cb => o1 ?_) (fun k jf hp τ1 ft => o0 ?_))
  · obtain ⟨⟨ff, tp1, g2, g3, ct⟩, cl⟩ := cb
    obtain ⟨sg, hsg⟩ := pAll_sg hm (fun k hk => (tC.2.2 k hk).2) 16 0 0 0 rho0 rfl ⟨by omega, by omega, fun i hi => absurd hi (by omega), fun k hk => absurd hk (by omega)⟩ ⟨fun _ => 0, fun i hi => absurd hi (by omega)⟩ n ρ c hp
    have lay := thR_lay v hsg
    have tw := lay_TW v lay
    have s1 : ∀ a, a ≠ 1 → (sI τ1 1 1 0).1 a = τ1.1 a := fun a ha => by rw [sI_r, if_neg ha]
    have s11 : (sI τ1 1 1 0).1 1 1 = 0 := by rw [sI_r, if_pos rfl, upd_r, if_pos rfl]
    have s12 : (sI τ1 1 1 0).1 1 2 = 0 := by rw [sI_r, if_pos rfl, upd_r, if_neg (by decide)]; exact g2
    have s13 : (sI τ1 1 1 0).1 1 3 = 0 := by rw [sI_r, if_pos rfl, upd_r, if_neg (by decide)]; exact g3
    have sl : (sI τ1 1 1 0).2 = σ.2 := ff.1
    have sk : SameK σ (sI τ1 1 1 0) := SameG.sI (ff.G (by decide) (by decide)) (by decide)
    have sq : SameQ σ (sI τ1 1 1 0) := SameG.sI (ff.G (by decide) (by decide)) (by decide)
    generalize sI τ1 1 1 0 = σ1 at s1 s11 s12 s13 sl sk sq ⊢
    have hk : SameK σ (sI (sI (swp σ1) 45 4 0) 0 10 0) := ((sk.tr (swp_G (by decide) (by decide) (by decide) (by decide))).sI (by decide)).sI (by decide)
    have hq : SameQ σ (sI (sI (swp σ1) 45 4 0) 0 10 0) := ((sq.tr (swp_G (by decide) (by decide) (by decide) (by decide))).sI (by decide)).sI (by decide)
    have a1 : ∀ a, a ≠ 0 → a ≠ 45 → (sI (sI (swp σ1) 45 4 0) 0 10 0).1 a = σ1.1 (sw a) := fun a h0 h45 => by rw [sI_r, if_neg h0, sI_r, if_neg h45]; rfl
    have a0 : (sI (sI (swp σ1) 45 4 0) 0 10 0).1 0 10 = 0 := by rw [sI_r, if_pos rfl, upd_r, if_pos rfl]
    have a45 : (sI (sI (swp σ1) 45 4 0) 0 10 0).1 45 4 = 0 := by rw [sI_r, if_neg (by decide), sI_r, if_pos rfl, upd_r, if_pos rfl]
    have al : ∀ a, 31 ≤ a → (sI (sI (swp σ1) 45 4 0) 0 10 0).2 a = σ.2 a := fun a ha => by
      show σ1.2 (sw a) = σ.2 a
      rw [sw_big ha, sl]
    generalize sI (sI (swp σ1) 45 4 0) 0 10 0 = H at hk hq a1 a0 a45 al ⊢
    have H3 : ∀ a, a ≤ 12 → H.1 (3 + a) = τ1.1 (17 + a) := fun a ha => by
      rw [a1 (3 + a) (by omega) (by omega), sw_lo (by omega) (by omega), s1 _ (by omega), show 3 + a + 14 = 17 + a by omega]
    have Hb : ∀ a, 46 ≤ a → H.1 a = σ.1 a := fun a ha => by
      rw [a1 a (by omega) (by omega), sw_big (by omega), s1 a (by omega)]; exact ff.2.1 a (by omega) (by omega)
    refine cts_up (d := 5) (by omega) (c_restart (d := 0) (ne := 0) (ev := σ.1 107) (s := wsOf σ now) (Or.inl rfl) tw (lay_CX v lay cl H3) ⟨by omega, fun e he => absurd he (by omega)⟩ a45 (fun e he => absurd he (by omega)) (fun u fu cs => ?_))
    have fw := fu.W (Or.inl rfl)
    have u3 : ∀ a, a ≤ 12 → u.1 (3 + a) = τ1.1 (17 + a) := fun a ha => by rw [fu.1 (3 + a) (by omega)]; exact H3 a ha
    have u11 : u.1 1 = σ1.1 1 := by rw [fu.1 1 (by omega)]; exact a1 1 (by decide) (by decide)
    have ur : ∀ a, 98 ≤ a → u.1 a = σ.1 a := fun a ha => by rw [fu.1 a (by omega)]; exact Hb a (by omega)
    have tMu : TpM b m u := ⟨tM.1, by rw [ur 98 (by omega)]; exact tM.2.1, fun k hk => by rw [ur 101 (by omega)]; exact tM.2.2 k hk⟩
    show CTs 60 y_M_read [.ref 98] u (fun r' σ2 => oI (some (.int (u.1 3 0))) = oI r' ∧ Rel σ2)
    refine cts_up (d := 12) (by omega) (p_readM tMu (fun n' ρ' c' hp2 j' w v' mb => ?_) (fun k jf hp2 => by rw [hp] at hp2; cases hp2))
    rw [hp] at hp2
    injection hp2 with hp2
    injection hp2 with e1 e2
    injection e2 with e2 e3
    subst e1 e2 e3
    refine read_ok (now := now) v cl lay hkp hr cs hc.2.1 (hk.tr fw.K) (hq.tr (SameQ.of fw.R)) u3 ⟨by rw [u11]; exact s11, by rw [u11]; exact s12, by rw [u11]; exact s13⟩ (by rw [fu.1 0 (by omega)]; exact a0) ur (fun a ha => by rw [fu.2 a (by omega) (by omega)]; exact al a (by omega)) mb (fun z zn hz => ⟨?_, hz⟩)
    rw [zn, show u.1 3 0 = nI n from (congrFun (u3 0 (by omega)) 0).trans cl.1]
  · obtain ⟨ff, g2, g3⟩ := ft
    have s12 : (sI τ1 1 1 0).1 1 2 = nI k := by rw [sI_r, if_pos rfl, upd_r, if_neg (by decide)]; exact g2
    have s13 : (sI τ1 1 1 0).1 1 3 = nI (tk b m jf).2.1 := by rw [sI_r, if_pos rfl, upd_r, if_neg (by decide)]; exact g3
    have s11 : (sI τ1 1 1 0).1 1 1 = 0 := by rw [sI_r, if_pos rfl, upd_r, if_pos rfl]
    have s1 : ∀ a, a ≠ 1 → (sI τ1 1 1 0).1 a = τ1.1 a := fun a ha => by rw [sI_r, if_neg ha]
    have sc : SameC σ (sI τ1 1 1 0) := SameG.sI (ff.G (by decide) (by decide)) (by decide)
    have sk : SameK σ (sI τ1 1 1 0) := SameG.sI (ff.G (by decide) (by decide)) (by decide)
    have sq : SameQ σ (sI τ1 1 1 0) := SameG.sI (ff.G (by decide) (by decide)) (by decide)
    have sb : ∀ a, a = 0 ∨ 31 ≤ a → (sI τ1 1 1 0).1 a = σ.1 a := fun a ha => by rw [s1 a (by omega)]; exact ff.2.1 a (by omega) (by omega)
    show CTs 60 y_M_read [.ref 98] (sI τ1 1 1 0) (fun r' σ2 => oI (some (.int (-100 - (sI τ1 1 1 0).1 1 2))) = oI r' ∧ Rel σ2)
    generalize sI τ1 1 1 0 = u at s1 s11 s12 s13 sc sk sq sb ⊢
    have tMu : TpM b m u := ⟨tM.1, by rw [sb 98 (by omega)]; exact tM.2.1, fun k hk => by rw [sb 101 (by omega)]; exact tM.2.2 k hk⟩
    refine cts_up (d := 12) (by omega) (p_readM tMu (fun n' ρ' c' hp2 => by rw [hp] at hp2; cases hp2) (fun k' jf' hp2 w mf => ?_))
    obtain ⟨e1, e2⟩ := Prod.mk.inj (Except.error.inj (hp.symm.trans hp2))
    subst e1 e2
    obtain ⟨fr, m10, m11, -⟩ := mf
    refine ⟨by rw [s12], ⟨n0, now, ne, hc.same ((sc.tr (fr.G (by decide) (by decide) (by decide) (by decide))).sI (by decide))⟩, hr.tp ((sq.tr (fr.G (by decide) (by decide) (by decide) (by decide))).sI (by decide)) ?_ ?_ ?_ ?_ (Or.inl ⟨?_, ?_⟩), hkp.same ((sk.tr (fr.G (by decide) (by decide) (by decide) (by decide))).sI (by decide))⟩
    · rw [sI_r, if_neg (by decide), fr.1 1 (by decide) (by decide) (by decide) (by decide)]; exact s11
    · rw [sI_r, if_pos rfl, upd_r, if_pos rfl]
    · rw [sI_r, if_neg (by decide), fr.1 1 (by decide) (by decide) (by decide) (by decide), sI_r, if_pos rfl, upd_r, if_neg (by decide), m10]; exact s12
    · rw [sI_r, if_neg (by decide), fr.1 1 (by decide) (by decide) (by decide) (by decide), sI_r, if_pos rfl, upd_r, if_neg (by decide), m11]; exact s13
    · rw [sI_r, if_neg (by decide), fr.1 0 (by decide) (by decide) (by decide) (by decide), sb 0 (by omega)]
    · rw [sI_r, if_pos rfl, upd_r, if_neg (by decide), fr.2.1 43 (by decide) (by decide) (by decide) (by decide) (by decide) (by decide) (by decide) (by decide) (by decide) (by decide), sb 98 (by omega)]
