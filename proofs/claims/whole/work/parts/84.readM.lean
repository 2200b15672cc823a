/-! ===== the reference reads ===== -/
theorem r_bad {d : Nat} {Q : Po} {σ00 σ : Hp} {k p : Nat} (h : MFt σ00 k p σ) (q : Q (some (.int (-100 - nI k))) (sI σ 98 4 0)) : WP c_M_read (CTs (d + 1)) Q (29, [(0, .ref 98)], []) σ := by
  have e10 : (sI σ 98 4 0).1 98 10 = nI k := by rw [sI_r, if_pos rfl, upd_r, if_neg (by decide)]; exact h.2.1
  refine t_M_read_29 (rGood0 h.n (o0 (rGood0 ?_ (o0 ?_))))
  · rw [e10, ← h.2.1]; exact h.n
  · rw [e10]; exact q
theorem r_loop {Q : Po} {b : Nat → Nat} {m : Nat} {σ00 : Hp} (hm : m ≤ 300) (hb : ∀ k, k < m → b k < 256) : ∀ (f n c j : Nat) (ρ : Rho) (σ : Hp), n + f = 16 → VL ρ n c j → MBt b m σ00 ρ n c j σ →
    (∀ n' ρ' c', pAll b m f ρ n c j = .ok (n', ρ', c') → ∀ (j' : Nat) (τ : Hp), VL ρ' n' c' j' → MBt b m σ00 ρ' n' c' j' τ → WP c_M_read (CTs 11) Q (80, [(0, .ref 98), (1, .int 0)], []) (sI (sI τ 98 4 0) 98 0 (nI n'))) →
    (∀ k jf, pAll b m f ρ n c j = .error (k, jf) → ∀ τ : Hp, MFt σ00 k (tk b m jf).2.1 τ → Q (some (.int (-100 - nI k))) (sI τ 98 4 0)) → WP c_M_read (CTs 11) Q (29, [(0, .ref 98)], []) σ := by
  have done : ∀ (n c j : Nat) (ρ : Rho) (σ : Hp), MBt b m σ00 ρ n c j σ → (tk b m j).1 = 0 → WP c_M_read (CTs 11) Q (80, [(0, .ref 98), (1, .int 0)], []) (sI (sI σ 98 4 0) 98 0 (nI n)) → WP c_M_read (CTs 11) Q (29, [(0, .ref 98)], []) σ := fun n c j ρ σ h e q => by
    refine t_M_read_29 (rGood1 h.1.2.2.1 (o1 (ifp (by rw [h.1.2.2.2.2.1, e]; rfl) (rGood1 ?_ (o1 ?_)))))
    · rw [sI_r, if_pos rfl, upd_r, if_neg (by decide)]; exact h.1.2.2.1
    · have : (sI σ 98 4 0).1 98 12 = nI n := by rw [sI_r, if_pos rfl, upd_r, if_neg (by decide)]; exact h.2.1
      rw [this]
      exact q
  intro f
  induction f with
  | zero =>
    intro n c j ρ σ hn v h q1 q0
    have b3 := (tk_TB hm hb j).1
    by_cases e : (tk b m j).1 = 0
    · exact done n c j ρ σ h e (q1 n ρ c (if_pos e) j σ v h)
    · refine t_M_read_29 (rGood1 h.1.2.2.1 (o1 (ifn (by rw [h.1.2.2.2.2.1]; exact fun z => e ((nI_eq (b := 0) (by omega) (by omega)).mp z)) ?_)))
      have hF := h.1.f (k := 1) (by decide) (by decide)
      have l1 : σ.1 98 12 = nI n := h.2.1
      have hkT := kdT_le (b := b) (t := tk b m j)
      refine e_M_wantThing (t_M_wantThing_0 (p_kindHere (tk_TB hm hb j) h.1.2.2.2.2 ?_))
      rw [l1]
      have fin := rFaults (d := 8) (K := fun _ σ4 => WP c_M_read (CTs 11) Q (29, [(0, .ref 98)], []) σ4) (k := 1) h.1.2.2.1 h.1.2.2.2.2 (r_bad (d := 10) hF (q0 1 j (if_neg e) _ hF))
      refine ifp (nI_le (a := 16) (b := n) (by omega) (by omega)) (ite2 (fun _ => fin) (fun _ => ifp ?_ fin))
      rw [show n = 16 by omega]
      rfl
  | succ f ih =>
    intro n c j ρ σ hn v h q1 q0
    have b3 := (tk_TB hm hb j).1
    unfold pAll at q1 q0
    by_cases e : (tk b m j).1 = 0
    · rw [if_pos e] at q1
      exact done n c j ρ σ h e (q1 n ρ c rfl j σ v h)
    · rw [if_neg e] at q1 q0
      refine t_M_read_29 (rGood1 h.1.2.2.1 (o1 (ifn (by rw [h.1.2.2.2.2.1]; exact fun z => e ((nI_eq (b := 0) (by omega) (by omega)).mp z)) ?_)))
      refine p_thingM hm hb (by omega) v h (fun j' r hp τ h1 => ?_) (fun k jf hp τ hF => r_bad (d := 10) hF (q0 k jf (by rw [hp]) _ hF))
      rw [hp] at q1 q0
      obtain ⟨p1, p2, p3, p4, p5, p6⟩ := pThing_ok hm hb (by omega) v.2.1 hp
      exact ih (n + 1) (c + r.s.length) j' (updR ρ n r) τ (by omega) (v.suc (by omega) p3 p4 p5 p6) h1 q1 q0
theorem p_readM {Q : Po} {b : Nat → Nat} {m : Nat} {σ : Hp} (tp : TpM b m σ)
    (q1 : ∀ n ρ c, pAll b m 16 rho0 0 0 0 = .ok (n, ρ, c) → ∀ (j : Nat) (τ : Hp), VL ρ n c j → MBt b m σ ρ n c j τ → WP c_M_read (CTs 11) Q (80, [(0, .ref 98), (1, .int 0)], []) (sI (sI τ 98 4 0) 98 0 (nI n)))
    (q0 : ∀ k jf, pAll b m 16 rho0 0 0 0 = .error (k, jf) → ∀ τ : Hp, MFt σ k (tk b m jf).2.1 τ → Q (some (.int (-100 - nI k))) (sI τ 98 4 0)) : CTs 12 y_M_read [.ref 98] σ Q := by
  have hm := tp.1
  have hb : ∀ k, k < m → b k < 256 := fun k hk => (tp.2.2 k hk).2
  refine e_M_read (t_M_read_0 ?_)
  have e1 : ∀ x, x ≠ 10 → x ≠ 11 → x ≠ 12 → x ≠ 14 → x ≠ 7 → (sI (sI (sI (sI (sI σ 98 10 0) 98 11 0) 98 12 0) 98 14 0) 98 7 0).1 98 x = σ.1 98 x := fun x x1 x2 x3 x4 x5 => by rw [sI_r, if_pos rfl, upd_r, if_neg x5, sI_r, if_pos rfl, upd_r, if_neg x4, sI_r, if_pos rfl, upd_r, if_neg x3, sI_r, if_pos rfl, upd_r, if_neg x2, sI_r, if_pos rfl, upd_r, if_neg x1]
  have e2 : ∀ a, a ≠ 98 → (sI (sI (sI (sI (sI σ 98 10 0) 98 11 0) 98 12 0) 98 14 0) 98 7 0).1 a = σ.1 a := fun a a1 => by rw [sI_r, if_neg a1, sI_r, if_neg a1, sI_r, if_neg a1, sI_r, if_neg a1, sI_r, if_neg a1]
  have e4 : (sI (sI (sI (sI (sI σ 98 10 0) 98 11 0) 98 12 0) 98 14 0) 98 7 0).1 98 10 = 0 ∧ (sI (sI (sI (sI (sI σ 98 10 0) 98 11 0) 98 12 0) 98 14 0) 98 7 0).1 98 11 = 0 ∧ (sI (sI (sI (sI (sI σ 98 10 0) 98 11 0) 98 12 0) 98 14 0) 98 7 0).1 98 12 = 0 ∧ (sI (sI (sI (sI (sI σ 98 10 0) 98 11 0) 98 12 0) 98 14 0) 98 7 0).1 98 14 = 0 ∧ (sI (sI (sI (sI (sI σ 98 10 0) 98 11 0) 98 12 0) 98 14 0) 98 7 0).1 98 7 = 0 := by
    refine ⟨?_, ?_, ?_, ?_, ?_⟩
    · rw [sI_r, if_pos rfl, upd_r, if_neg (by decide), sI_r, if_pos rfl, upd_r, if_neg (by decide), sI_r, if_pos rfl, upd_r, if_neg (by decide), sI_r, if_pos rfl, upd_r, if_neg (by decide), sI_r, if_pos rfl, upd_r, if_pos rfl]
    · rw [sI_r, if_pos rfl, upd_r, if_neg (by decide), sI_r, if_pos rfl, upd_r, if_neg (by decide), sI_r, if_pos rfl, upd_r, if_neg (by decide), sI_r, if_pos rfl, upd_r, if_pos rfl]
    · rw [sI_r, if_pos rfl, upd_r, if_neg (by decide), sI_r, if_pos rfl, upd_r, if_neg (by decide), sI_r, if_pos rfl, upd_r, if_pos rfl]
    · rw [sI_r, if_pos rfl, upd_r, if_neg (by decide), sI_r, if_pos rfl, upd_r, if_pos rfl]
    · rw [sI_r, if_pos rfl, upd_r, if_pos rfl]
  have f0 : FrR σ (sI (sI (sI (sI (sI σ 98 10 0) 98 11 0) 98 12 0) 98 14 0) 98 7 0) := ⟨fun c a _ _ _ => e2 c a, fun x x5 x6 x7 x9 x10 x11 x12 x14 _ _ => e1 x x10 x11 x12 x14 x7, fun c _ => rfl, fun x _ => rfl⟩
  have t0 : TpM b m (sI (sI (sI (sI (sI σ 98 10 0) 98 11 0) 98 12 0) 98 14 0) 98 7 0) := ⟨tp.1, (e1 4 (by decide) (by decide) (by decide) (by decide) (by decide)).trans tp.2.1, fun k hk => by rw [e2 101 (by decide)]; exact tp.2.2 k hk⟩
  generalize (sI (sI (sI (sI (sI σ 98 10 0) 98 11 0) 98 12 0) 98 14 0) 98 7 0) = σ2 at e1 e2 e4 f0 t0 ⊢
  refine p_adv (p := 0) (by omega) t0 e4.2.2.2.2 (fun τ f k => ?_)
  have gx : ∀ x, x ≠ 5 → x ≠ 6 → x ≠ 7 → x ≠ 9 → τ.1 98 x = σ2.1 98 x := f.2.1
  exact r_loop hm hb 16 0 0 0 rho0 τ rfl ⟨by omega, by omega, fun i hi => absurd hi (by omega), fun k hk => absurd hk (by omega)⟩ ⟨⟨f0.T f, t0.fr f, (gx 10 (by decide) (by decide) (by decide) (by decide)).trans e4.1, (gx 11 (by decide) (by decide) (by decide) (by decide)).trans e4.2.1, k⟩, (gx 12 (by decide) (by decide) (by decide) (by decide)).trans e4.2.2.1, (gx 14 (by decide) (by decide) (by decide) (by decide)).trans e4.2.2.2.1, fun i hi => absurd hi (by omega), fun q hq => absurd hq (Nat.not_lt_zero _)⟩ q1 q0
