/-! ===== a step of the class's world ===== -/
theorem mst_at {th sg V mem : Nat → Int32} {now : Nat} : ∀ (k i x : Nat), x < 10 → mst th sg V now mem k (10 * i + x) = if i < k ∧ th (20 * i) = 2 ∧ x = now % 10 then wrk th sg V i else mem (10 * i + x) := by
  intro k
  induction k with
  | zero => intro i x hx; rw [if_neg (fun z => absurd z.1 (by omega))]; rfl
  | succ k ih =>
    intro i x hx
    show (if th (20 * k) = 2 then upd (mst th sg V now mem k) (10 * k + now % 10) (wrk th sg V k) else mst th sg V now mem k) (10 * i + x) = _
    by_cases h2 : th (20 * k) = 2
    · rw [if_pos h2, upd_r]
      by_cases e : i = k ∧ x = now % 10
      · rw [if_pos (by omega), e.1, if_pos ⟨by omega, h2, e.2⟩]
      · rw [if_neg (by omega), ih i x hx]
        by_cases h : i < k ∧ th (20 * i) = 2 ∧ x = now % 10
        · rw [if_pos h, if_pos ⟨by omega, h.2⟩]
        · rw [if_neg h, if_neg (fun z => h ⟨by omega, z.2⟩)]
    · rw [if_neg h2, ih i x hx]
      by_cases h : i < k ∧ th (20 * i) = 2 ∧ x = now % 10
      · rw [if_pos h, if_pos ⟨by omega, h.2⟩]
      · rw [if_neg h, if_neg (fun z => h ⟨Nat.lt_of_le_of_ne (Nat.lt_succ_iff.mp z.1) (fun y => h2 (by rw [← y]; exact z.2.1)), z.2⟩)]
theorem mod_ne {s now N : Nat} (h1 : s < now) (h2 : now < s + N) : ¬ s % N = now % N := fun e => by
  have h := Nat.sub_mod_eq_zero_of_mod_eq e.symm
  rw [Nat.mod_eq_of_lt (by omega)] at h
  omega
abbrev WS : Type := (Nat → Int32) × (Nat → Int32) × Nat × Int64 × Int64 × Int64
def stp (n : Nat) (th sg : Nat → Int32) (ne : Nat) (ev : Nat → Int32) (s : WS) : WS := (amS n th sg s.1 s.2.1 s.2.2.1 ne ev, memS n th sg s.1 s.2.1 s.2.2.1, s.2.2.1 + 1, spS n th sg s.1 s.2.1 s.2.2.1 s.2.2.2.1, caS n th sg s.1 s.2.1 s.2.2.1 4 s.2.2.2.2.1, caS n th sg s.1 s.2.1 s.2.2.1 5 s.2.2.2.2.2)
def vls (n : Nat) (th sg : Nat → Int32) (s : WS) : Nat → Int32 := vto th sg s.1 s.2.1 s.2.2.1 n
def chs (n : Nat) (th sg : Nat → Int32) (s : WS) : Int32 := chS n th sg s.1 s.2.1 s.2.2.1
/-- the class's world w stands for a state -/
def CS (n : Nat) (th sg : Nat → Int32) (ne : Nat) (ev : Nat → Int32) (s : WS) (w : Nat) (σ : Hp) : Prop := CW n th sg s.1 s.2.1 s.2.2.1 ne ev (fun j => σ.1 (w + j)) ∧ CWL s.2.2.2.1 s.2.2.2.2.1 s.2.2.2.2.2 (σ.2 w)
/-- the model's cells hold a state -/
def MS (s : WS) (σ : Hp) : Prop := σ.1 105 = s.1 ∧ σ.1 106 = s.2.1 ∧ σ.1 98 19 = nI s.2.2.1 ∧ σ.2 98 22 = s.2.2.2.1 ∧ σ.2 98 23 = s.2.2.2.2.1 ∧ σ.2 98 24 = s.2.2.2.2.2
def TxM (n : Nat) (th sg : Nat → Int32) (ne : Nat) (ev : Nat → Int32) (σ : Hp) : Prop := σ.1 98 0 = nI n ∧ σ.1 99 = th ∧ σ.1 100 = sg ∧ σ.1 98 25 = nI ne ∧ σ.1 107 = ev
def FrC (w : Nat) (σ τ : Hp) : Prop := (∀ c, c < w ∨ w + 10 < c → τ.1 c = σ.1 c) ∧ ∀ c, c ≠ w → c ≠ w + 9 → τ.2 c = σ.2 c
def FrM (σ τ : Hp) : Prop := (∀ c, c ≠ 98 → c ≠ 105 → c ≠ 106 → c ≠ 109 → c ≠ 110 → c ≠ 111 → τ.1 c = σ.1 c) ∧ (∀ x, x ≠ 19 → τ.1 98 x = σ.1 98 x) ∧ (∀ c, c ≠ 98 → c ≠ 112 → τ.2 c = σ.2 c) ∧ ∀ x, x ≠ 22 → x ≠ 23 → x ≠ 24 → τ.2 98 x = σ.2 98 x
theorem FrC.rf {w : Nat} {σ : Hp} : FrC w σ σ := ⟨fun _ _ => rfl, fun _ _ _ => rfl⟩
theorem FrC.tr {w : Nat} {σ τ u : Hp} (h1 : FrC w σ τ) (h2 : FrC w τ u) : FrC w σ u := ⟨fun c h => (h2.1 c h).trans (h1.1 c h), fun c a b => (h2.2 c a b).trans (h1.2 c a b)⟩
theorem FrM.rf {σ : Hp} : FrM σ σ := ⟨fun _ _ _ _ _ _ _ => rfl, fun _ _ => rfl, fun _ _ _ => rfl, fun _ _ _ _ => rfl⟩
theorem FrM.tr {σ τ u : Hp} (h1 : FrM σ τ) (h2 : FrM τ u) : FrM σ u := ⟨fun c a b d e f g => (h2.1 c a b d e f g).trans (h1.1 c a b d e f g), fun x h => (h2.2.1 x h).trans (h1.2.1 x h), fun c a b => (h2.2.2.1 c a b).trans (h1.2.2.1 c a b), fun x a b c => (h2.2.2.2 x a b c).trans (h1.2.2.2 x a b c)⟩
theorem TxM.to {n : Nat} {th sg : Nat → Int32} {ne : Nat} {ev : Nat → Int32} {σ τ : Hp} (h : TxM n th sg ne ev σ) (f : FrM σ τ) : TxM n th sg ne ev τ := ⟨(f.2.1 0 (by decide)).trans h.1, (f.1 99 (by decide) (by decide) (by decide) (by decide) (by decide) (by decide)).trans h.2.1, (f.1 100 (by decide) (by decide) (by decide) (by decide) (by decide) (by decide)).trans h.2.2.1, (f.2.1 25 (by decide)).trans h.2.2.2.1, (f.1 107 (by decide) (by decide) (by decide) (by decide) (by decide) (by decide)).trans h.2.2.2.2⟩
theorem CX.fr {n w : Nat} {th sg : Nat → Int32} {σ τ : Hp} (cx : CX n th sg (fun j => σ.1 (3 + j))) (hw : w = 45 ∨ w = 56) (f : FrC w σ τ) : CX n th sg (fun j => τ.1 (3 + j)) := cx.off (fun c h1 h2 => f.1 c (by omega))
theorem CX.frM {n : Nat} {th sg : Nat → Int32} {σ τ : Hp} (cx : CX n th sg (fun j => σ.1 (3 + j))) (f : FrM σ τ) : CX n th sg (fun j => τ.1 (3 + j)) := cx.off (fun c h1 h2 => f.1 c (by omega) (by omega) (by omega) (by omega) (by omega) (by omega))
theorem m_adv {d : Nat} {K : Po} {σ : Hp} {n ne : Nat} {th sg ev : Nat → Int32} {s : WS} (tw : TW n th sg) (tx : TxM n th sg ne ev σ) (ms : MS s σ) (mw : MW n th s.1 ne ev) (h20 : s.2.2.1 < 2 ^ 20) (q : ∀ τ : Hp, FrM σ τ → MS (stp n th sg ne ev s) τ → K (some (.int (chs n th sg s))) τ) : CTs (d + 5) y_M_steps [.ref 98] σ K := by
  obtain ⟨x1, x2, x3, x4, x5⟩ := tx
  obtain ⟨m1, m2, m3, m4, m5, m6⟩ := ms
  refine p_steps (n := n) (now := s.2.2.1) (ne := ne) x1 m3 x4 h20 (by rw [x2, x3]; exact tw) (by rw [x2, m1, x5]; exact mw) (fun τ hm => ?_)
  unfold MStep at hm
  rw [x2, x3, m1, m2, x5, m4, m5, m6] at hm
  obtain ⟨h1, h2, h3, h4, h5, h6, h7, h8, h9, h10⟩ := hm
  rw [x2, x3, m1, m2]
  exact q τ ⟨h1, h2, h6, h7⟩ ⟨h4, h5, h3, h8, h9, h10⟩
set_option maxHeartbeats 1000000 in
theorem c_adv {d : Nat} {K : Po} {σ : Hp} {n w ne : Nat} {th sg ev : Nat → Int32} {s : WS} (hw : w = 45 ∨ w = 56) (tw : TW n th sg) (cx : CX n th sg (fun j => σ.1 (3 + j))) (cs : CS n th sg ne ev s w σ) (mw : MW n th s.1 ne ev) (h20 : s.2.2.1 + 1 < 2 ^ 20) (q : ∀ τ : Hp, FrC w σ τ → CS n th sg ne ev (stp n th sg ne ev s) w τ → K (some (.int (chs n th sg s))) τ) : CTs (d + 5) y_Wo_advance [.ref w, .ref 3] σ K := by
  obtain ⟨am, mem, now, sp, ca, we⟩ := s
  obtain ⟨cw, wl1, wl2, wl3⟩ := cs
  replace cw : CW n th sg am mem now ne ev (fun j => σ.1 (w + j)) := cw
  replace mw : MW n th am ne ev := mw
  replace h20 : now + 1 < 2 ^ 20 := h20
  have h16 := tw.1
  have hne6 := mw.2.1
  obtain ⟨cb, cv⟩ := CW.split.mp cw
  obtain ⟨v1, v2, v3⟩ := cv
  obtain ⟨cb1, cb2, cb3, cb4, cb5⟩ := cb
  have dl : ∀ i, i < n → th (20 * i) = 2 → 1 ≤ sN (th (20 * i + 3)) ∧ sN (th (20 * i + 3)) ≤ 9 ∧ σ.1 6 i = nI (sN (th (20 * i + 3))) := fun i hi e => by
    obtain ⟨N, N1, N9, hN⟩ := (tw.2 i hi).2.2.2.2.2.1 e
    rw [cx.t3 hi (dif e (by decide)), hN, sN_nI (by omega)]
    exact ⟨N1, N9, rfl⟩
  have mws : MW n th (amS n th sg am mem now ne ev) ne ev := MW.step tw mw
  refine e_Wo_advance hw (t_Wo_advance_0 hw (p_remember (n := n) (th := th) (now := now) (N := fun i => sN (th (20 * i + 3))) hw h16 cx.n (fun i hi => cx.k hi) dl cb1 (by omega) (fun σ1 a2 a1 a8 => ?_)))
  have cx1 : CX n th sg (fun j => σ1.1 (3 + j)) := cx.off (fun c h1 h2 => a1 c (by omega))
  refine p_pour (n := n) (th := th) (am := am) (V := vto th sg am mem now n) hw h16 cx1.n (fun i hi => cx1.k hi) (fun i hi => cx1.f4 hi) (fun i hi => cx1.f5 hi) tw.e4 tw.e5 (fun i hi e => by rw [a1 (w + 6) (by omega)]; exact v2 i hi e) (fun i hi e => by rw [a1 (w + 4) (by omega)]; exact cb4 i hi (Or.inl e)) (fun σ2 b1 ba b2 b21 b22 b23 => ?_)
  have s0 : σ2.1 w = σ.1 w := (b1 w (by omega)).trans (a1 w (by omega))
  have e0 : σ2.1 w 0 = nI now := by rw [s0]; exact cb1
  rw [e0, nI_1]
  have off : ∀ c, c ≠ w + 4 → c ≠ w + 8 → c ≠ w → (sI σ2 w 0 (nI (now + 1))).1 c = σ.1 c := fun c h1 h2 h3 => by rw [sI_r, if_neg h3, b1 c h1]; exact a1 c h2
  have key : ∀ (c e : Nat) (τ : Hp), e + c = ne → (∀ c, c ≠ w + 4 → τ.1 c = (sI σ2 w 0 (nI (now + 1))).1 c) → τ.2 = σ2.2 → (∀ i, i < n → (th (20 * i) = 1 ∨ th (20 * i) = 5) → τ.1 (w + 4) i = evIn ev (now + 1) e (pouK n th am (vto th sg am mem now n) n) i) → WP c_Wo_advance (CTs (d + 4)) K (23, [(0, .ref w), (1, .ref 3), (2, .int (chg n th am (vto th sg am mem now n) n)), (3, .int (nI e))], []) τ := by
    intro c
    induction c with
    | zero =>
      intro e τ he t1 t2 ta
      have ee : e = ne := by omega
      rw [ee] at ta ⊢
      have tw0 : τ.1 w = upd (σ.1 w) 0 (nI (now + 1)) := by rw [t1 w (by omega), sI_r, if_pos rfl, s0]
      have t4 : τ.1 w 4 = nI ne := by rw [tw0, upd_r, if_neg (by decide)]; exact cb2
      have toff : ∀ c, c ≠ w + 4 → c ≠ w + 8 → c ≠ w → τ.1 c = σ.1 c := fun c h1 h2 h3 => (t1 c h1).trans (off c h1 h2 h3)
      have t8 : τ.1 (w + 8) = σ1.1 (w + 8) := by rw [t1 (w + 8) (by omega), sI_r, if_neg (by omega), b1 (w + 8) (by omega)]
      refine t_Wo_advance_23 hw ?_
      rw [t4]
      have cx2 : CX n th sg (fun j => τ.1 (3 + j)) := cx.off (fun c h1 h2 => toff c (by omega) (by omega) (by omega))
      have cb' : CB n th (amS n th sg am mem now ne ev) (memS n th sg am mem now) (now + 1) ne ev (fun j => τ.1 (w + j)) := by
        refine ⟨?_, t4, fun x hx => ?_, ta, fun i hi e2 x hx1 hx2 => ?_⟩
        · show τ.1 w 0 = _
          rw [tw0, pk_us]
        · show τ.1 (w + 1) x = _ ∧ τ.1 (w + 2) x = _ ∧ τ.1 (w + 3) x = _
          rw [toff (w + 1) (by omega) (by omega) (by omega), toff (w + 2) (by omega) (by omega) (by omega), toff (w + 3) (by omega) (by omega) (by omega)]
          exact cb3 x hx
        · obtain ⟨N1, N9, -⟩ := dl i hi e2
          show τ.1 (w + 8) (9 * i + x % sN (th (20 * i + 3))) = mst th sg (vto th sg am mem now n) now mem n (10 * i + x % 10)
          have hm : x % sN (th (20 * i + 3)) < sN (th (20 * i + 3)) := Nat.mod_lt _ (by omega)
          rw [t8, a8 i hi e2 _ (by omega), mst_at n i _ (by omega)]
          by_cases ex : x = now
          · rw [ex, if_pos rfl, if_pos ⟨hi, e2, rfl⟩]; exact v3 i hi e2
          · rw [if_neg (mod_ne (by omega) (by omega)), if_neg (fun z => absurd z.2.2 (by omega))]
            exact cb5 i hi e2 x (by omega) (by omega)
      refine ifp (Int32.le_refl _) (p_workOut hw tw cx2 mws.1 cb' h20 (fun u u1 u2 uv => ⟨chg_b n, q u ⟨fun c hc => (u1 c (by omega) (by omega) (by omega) (by omega)).trans (toff c (by omega) (by omega) (by omega)), fun c h1 h2 => by rw [u2 c h2, t2, b2 c h1 h2, a2]⟩ ⟨CW.split.mpr ⟨?_, uv⟩, ?_, ?_, ?_⟩⟩))
      · obtain ⟨c1, c2, c3, c4, c5⟩ := cb'
        refine ⟨?_, ?_, fun x hx => ?_, fun i hi e => ?_, fun i hi e x h1 h2 => ?_⟩
        · show u.1 (w + 0) 0 = _
          rw [u1 (w + 0) (by omega) (by omega) (by omega) (by omega)]; exact c1
        · show u.1 (w + 0) 4 = _
          rw [u1 (w + 0) (by omega) (by omega) (by omega) (by omega)]; exact c2
        · show u.1 (w + 1) x = _ ∧ u.1 (w + 2) x = _ ∧ u.1 (w + 3) x = _
          rw [u1 (w + 1) (by omega) (by omega) (by omega) (by omega), u1 (w + 2) (by omega) (by omega) (by omega) (by omega), u1 (w + 3) (by omega) (by omega) (by omega) (by omega)]; exact c3 x hx
        · show u.1 (w + 4) i = _
          rw [u1 (w + 4) (by omega) (by omega) (by omega) (by omega)]; exact c4 i hi e
        · show u.1 (w + 8) _ = _
          rw [u1 (w + 8) (by omega) (by omega) (by omega) (by omega)]; exact c5 i hi e x h1 h2
      · show u.2 w 1 = spS n th sg am mem now sp
        rw [u2 w (by omega), t2, b21, a2]; unfold spS; rw [show σ.2 w 1 = sp from wl1]
      · show u.2 w 2 = caS n th sg am mem now 4 ca
        rw [u2 w (by omega), t2, b22, a2]; unfold caS; rw [show σ.2 w 2 = ca from wl2]
      · show u.2 w 3 = caS n th sg am mem now 5 we
        rw [u2 w (by omega), t2, b23, a2]; unfold caS; rw [show σ.2 w 3 = we from wl3]
    | succ c ih =>
      intro e τ he t1 t2 ta
      have tw0 : τ.1 w = upd (σ.1 w) 0 (nI (now + 1)) := by rw [t1 w (by omega), sI_r, if_pos rfl, s0]
      have t4 : τ.1 w 4 = nI ne := by rw [tw0, upd_r, if_neg (by decide)]; exact cb2
      have t0 : τ.1 w 0 = nI (now + 1) := by rw [tw0, pk_us]
      have toff : ∀ c, c ≠ w + 4 → c ≠ w + 8 → c ≠ w → τ.1 c = σ.1 c := fun c h1 h2 h3 => (t1 c h1).trans (off c h1 h2 h3)
      obtain ⟨c1, c2, c3⟩ := cb3 e (by omega)
      replace c1 : τ.1 (w + 1) e = ev (3 * e) := by rw [toff (w + 1) (by omega) (by omega) (by omega)]; exact c1
      replace c2 : τ.1 (w + 2) e = ev (3 * e + 1) := by rw [toff (w + 2) (by omega) (by omega) (by omega)]; exact c2
      replace c3 : τ.1 (w + 3) e = ev (3 * e + 2) := by rw [toff (w + 3) (by omega) (by omega) (by omega)]; exact c3
      obtain ⟨j, hj, ej, ek⟩ := mw.2.2 e (by omega)
      refine t_Wo_advance_23 hw ?_
      rw [t4, t0, nI_1, nI_clamp (n := e) (by omega), c1, c2, c3, ej, nI_clamp (n := j) (by omega)]
      have hv : vp_in (nI e) 6 := vp_in_nI (by omega) (by omega)
      refine ifn (nI_ge (by omega) (by omega)) ⟨hv, ite2 (fun h => ⟨hv, hv, vp_in_nI (by omega) (by omega), ?_⟩) (fun h => ?_)⟩
      · refine ih (e + 1) _ (by omega) (fun c hc => by rw [sI_r, if_neg hc]; exact t1 c hc) t2 (fun i hi e2 => ?_)
        rw [sI_r, if_pos rfl]
        show _ = (if ev (3 * e) = nI (now + 1) then upd (evIn ev (now + 1) e (pouK n th am (vto th sg am mem now n) n)) (sN (ev (3 * e + 1))) (ev (3 * e + 2)) else _) i
        rw [if_pos h, ej, sN_nI (by omega), upd_r, upd_r, ta i hi e2]
      · refine ih (e + 1) τ (by omega) t1 t2 (fun i hi e2 => ?_)
        show _ = (if ev (3 * e) = nI (now + 1) then upd (evIn ev (now + 1) e (pouK n th am (vto th sg am mem now n) n)) (sN (ev (3 * e + 1))) (ev (3 * e + 2)) else _) i
        rw [if_neg h]; exact ta i hi e2
  refine key ne 0 _ (by omega) (fun _ _ => rfl) rfl (fun i hi e => ?_)
  rw [sI_r, if_neg (by omega), ba i hi]
  show _ = pouK n th am (vto th sg am mem now n) n i
  unfold pouK
  by_cases h1 : th (20 * i) = 1
  · rw [if_pos h1, if_pos ⟨hi, h1⟩]
  · rw [if_neg h1, if_neg (fun z => h1 z.2), a1 (w + 4) (by omega)]; exact cb4 i hi e
