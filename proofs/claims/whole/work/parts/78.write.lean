/-! ===== the class writes ===== -/
def rho0 : Rho := fun _ => (0, 0, 0, 0, none, none, 0, [], [])
theorem w_bad {Q : Po} {v2 : Int32} {τ : Hp} (q : Q (some (.int 0)) (sI τ 1 1 0)) : WP c_Sc_write (CTs 34) Q (31, [(0, .ref 1), (1, .int 0), (2, .int v2)], []) τ :=
  t_Sc_write_31 (ite2 (fun _ => ifp rfl ⟨vb0, q⟩) (fun _ => ifp rfl (ifp rfl ⟨vb0, q⟩)))
theorem w_loop {Q : Po} {b : Nat → Nat} {m : Nat} {σ00 : Hp} (hm : m ≤ 300) (hb : ∀ k, k < m → b k < 256) : ∀ (f n c j : Nat) (ρ : Rho) (σ : Hp), n + f = 16 → VL ρ n c j → CBt b m σ00 ρ n c j σ →
    (∀ n' ρ' c', pAll b m f ρ n c j = .ok (n', ρ', c') → ∀ (j' : Nat) (τ : Hp), VL ρ' n' c' j' → CBt b m σ00 ρ' n' c' j' τ → Q (some (.int 1)) (sI τ 1 1 0)) →
    (∀ k jf, pAll b m f ρ n c j = .error (k, jf) → ∀ τ : Hp, FtC b m σ00 k jf τ → Q (some (.int 0)) (sI τ 1 1 0)) → WP c_Sc_write (CTs 34) Q (31, [(0, .ref 1), (1, .int 1), (2, .int (nI n))], []) σ := by
  intro f
  induction f with
  | zero =>
    intro n c j ρ σ hn v h q1 q0
    have b3 := (tk_TB hm hb j).1
    refine t_Sc_write_31 (ifp (nI_le (a := 16) (b := n) (by omega) (by omega)) (ifn (by decide) ?_))
    rw [h.1.2.2.2.2.2.1]
    by_cases e : (tk b m j).1 = 0
    · exact ifp (by rw [e]; rfl) ⟨vb1, q1 n ρ c (if_pos e) j σ v h⟩
    · exact ifn (fun z => e ((nI_eq (b := 0) (by omega) (by omega)).mp z)) (p_wrong (k := 1) h.1.2.2.2.2 (o0 ⟨vb0, q0 1 j (if_neg e) _ (h.1.f 1)⟩))
  | succ f ih =>
    intro n c j ρ σ hn v h q1 q0
    have b3 := (tk_TB hm hb j).1
    refine t_Sc_write_31 (ifn (nI_ge (a := n) (b := 16) (by omega) (by omega)) (ifn (by decide) ?_))
    rw [h.1.2.2.2.2.2.1]
    unfold pAll at q1 q0
    by_cases e : (tk b m j).1 = 0
    · rw [if_pos e] at q1
      exact ifp (by rw [e]; rfl) (ifn (by decide) (ifp (by rw [e]; rfl) ⟨vb1, q1 n ρ c rfl j σ v h⟩))
    · rw [if_neg e] at q1 q0
      refine ifn (fun z => e ((nI_eq (b := 0) (by omega) (by omega)).mp z)) ?_
      refine p_thingC hm hb (by omega) v h (fun j1 r hp τ h1 => o1 ?_) (fun k jf hp τ f1 => o0 (w_bad (q0 k jf (by rw [hp]) τ f1)))
      refine p_skipSign (c := 59) (tk_TB hm hb j1) h1.1.2.1 h1.1.2.2.2.2 (by decide) (fun h59 τ2 f2 k2 => o1 ?_) (fun h59 => o0 (w_bad (q0 1 j1 (by rw [hp, if_neg h59]) _ (h1.1.f 1))))
      rw [if_pos h59] at hp
      rw [hp] at q1 q0
      obtain ⟨p1, p2, p3, p4, p5, p6⟩ := pThing_ok hm hb (by omega) v.2.1 hp
      rw [nI_1]
      exact ih (n + 1) (c + r.s.length) (j1 + 1) (updR ρ n r) τ2 (by omega) (v.suc (by omega) p3 p4 p5 p6) ⟨h1.1.S f2 k2, h1.2.S f2.a⟩ q1 q0
theorem p_writeC {Q : Po} {b : Nat → Nat} {m : Nat} {σ : Hp} (tp : TpC b m σ)
    (q1 : ∀ n ρ c, pAll b m 16 rho0 0 0 0 = .ok (n, ρ, c) → ∀ (j : Nat) (τ : Hp), VL ρ n c j → CBt b m σ ρ n c j τ → Q (some (.int 1)) (sI τ 1 1 0))
    (q0 : ∀ k jf, pAll b m 16 rho0 0 0 0 = .error (k, jf) → ∀ τ : Hp, FtC b m σ k jf τ → Q (some (.int 0)) (sI τ 1 1 0)) : CTs 35 y_Sc_write [.ref 1] σ Q := by
  have hm := tp.1
  have hb : ∀ k, k < m → b k < 256 := fun k hk => (tp.2.2 k hk).2
  refine e_Sc_write (t_Sc_write_0 (e_Tx_clear rfl (t_Tx_clear_0 rfl ?_)))
  have e1 : ∀ x, x ≠ 2 → x ≠ 3 → x ≠ 5 → (sI (sI (sI (sI (sI σ 17 0 0) 17 1 0) 1 2 0) 1 3 0) 1 5 0).1 1 x = σ.1 1 x := fun x x2 x3 x5 => by rw [sI_r, if_pos rfl, upd_r, if_neg x5, sI_r, if_pos rfl, upd_r, if_neg x3, sI_r, if_pos rfl, upd_r, if_neg x2, sI_r, if_neg (by decide), sI_r, if_neg (by decide)]
  have e2 : ∀ a, a ≠ 1 → a ≠ 17 → (sI (sI (sI (sI (sI σ 17 0 0) 17 1 0) 1 2 0) 1 3 0) 1 5 0).1 a = σ.1 a := fun a a1 a2 => by rw [sI_r, if_neg a1, sI_r, if_neg a1, sI_r, if_neg a1, sI_r, if_neg a2, sI_r, if_neg a2]
  have e3 : (sI (sI (sI (sI (sI σ 17 0 0) 17 1 0) 1 2 0) 1 3 0) 1 5 0).1 17 0 = 0 ∧ (sI (sI (sI (sI (sI σ 17 0 0) 17 1 0) 1 2 0) 1 3 0) 1 5 0).1 17 1 = 0 := by
    constructor
    · rw [sI_r, if_neg (by decide), sI_r, if_neg (by decide), sI_r, if_neg (by decide), sI_r, if_pos rfl, upd_r, if_neg (by decide), sI_r, if_pos rfl, upd_r, if_pos rfl]
    · rw [sI_r, if_neg (by decide), sI_r, if_neg (by decide), sI_r, if_neg (by decide), sI_r, if_pos rfl, upd_r, if_pos rfl]
  have e4 : (sI (sI (sI (sI (sI σ 17 0 0) 17 1 0) 1 2 0) 1 3 0) 1 5 0).1 1 2 = 0 ∧ (sI (sI (sI (sI (sI σ 17 0 0) 17 1 0) 1 2 0) 1 3 0) 1 5 0).1 1 3 = 0 ∧ (sI (sI (sI (sI (sI σ 17 0 0) 17 1 0) 1 2 0) 1 3 0) 1 5 0).1 1 5 = 0 := by
    refine ⟨?_, ?_, ?_⟩
    · rw [sI_r, if_pos rfl, upd_r, if_neg (by decide), sI_r, if_pos rfl, upd_r, if_neg (by decide), sI_r, if_pos rfl, upd_r, if_pos rfl]
    · rw [sI_r, if_pos rfl, upd_r, if_neg (by decide), sI_r, if_pos rfl, upd_r, if_pos rfl]
    · rw [sI_r, if_pos rfl, upd_r, if_pos rfl]
  have f0 : FrF σ (sI (sI (sI (sI (sI σ 17 0 0) 17 1 0) 1 2 0) 1 3 0) 1 5 0) := ⟨rfl, fun a a1 a2 => e2 a a1 (by omega), fun x x2 x3 x5 x6 x7 x8 x9 => e1 x x2 x3 x5⟩
  have t0 : TpC b m (sI (sI (sI (sI (sI σ 17 0 0) 17 1 0) 1 2 0) 1 3 0) 1 5 0) := ⟨tp.1, (e1 1 (by decide) (by decide) (by decide)).trans tp.2.1, fun k hk => by rw [e2 2 (by decide) (by decide)]; exact tp.2.2 k hk⟩
  generalize (sI (sI (sI (sI (sI σ 17 0 0) 17 1 0) 1 2 0) 1 3 0) 1 5 0) = σ2 at e1 e2 e3 e4 f0 t0 ⊢
  refine p_next m 0 σ2 (by omega) t0 e4.2.2 (fun τ f k => ?_)
  have g : GS b m σ 0 τ := ⟨f0.S f, t0.fr f, (f.2.2 2 (by decide) (by decide) (by decide) (by decide) (by decide)).trans e4.1, (f.2.2 3 (by decide) (by decide) (by decide) (by decide) (by decide)).trans e4.2.1, k⟩
  refine w_loop hm hb 16 0 0 0 rho0 τ rfl ⟨by omega, by omega, fun i hi => absurd hi (by omega), fun k hk => absurd hk (by omega)⟩ ⟨g, ?_, ?_, fun i hi => absurd hi (by omega), fun q hq => absurd hq (Nat.not_lt_zero _)⟩ q1 q0
  · rw [f.2.1 17 (by decide)]; exact e3.1
  · rw [f.2.1 17 (by decide)]; exact e3.2
