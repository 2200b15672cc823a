/-! ===== acts of the model ===== -/
theorem m_reads {d : Nat} {K : Po} {σ : Hp} {k : Nat} {nu L p x : Int32} {l : List Int32} (h1 : 1 ≤ k) (h6 : k ≤ 6) (ds : MoS (nI k) nu L l p σ) (hl : l.length < 20) (q : ∀ τ : Hp, FrE σ τ → MoS (nI k) nu L (l ++ rdL k) p τ → K (some (.int (rdV k nu x))) τ) : CTs (d + 2) y_M_readsIt [.ref 98, .int x] σ K := by
  have hl1 : ∀ b : Int32, (l ++ [b]).length < 30 := fun b => by rw [List.length_append]; show l.length + 1 < 30; omega
  refine e_M_readsIt (t_M_readsIt_0 ?_)
  rw [ds.1]
  match k, h1, h6, ds, q with
  | 1, _, _, ds, q => exact ifn (by decide) (ifn (by decide) (ifn (by decide) (ifn (by decide) (ifp (by decide) (t_M_readsIt_59 (p_ran ds (by omega) (fun u fu du => ifn (by decide) (ifn (by decide) (ifn (by decide) (by rw [du.2.1]; exact q u fu du))))))))))
  | 2, _, _, ds, q => exact ifp rfl (ifn (by decide) (p_ran ds (by omega) (fun τ f dt => t_M_readsIt_59 (p_ran dt (hl1 _) (fun u fu du => ifp rfl (by rw [du.2.1]; rw [app2] at du; exact q u (f.tr fu) du))))))
  | 3, _, _, ds, q => exact ifn (by decide) (ifn (by decide) (ifn (by decide) (ifn (by decide) (ifp (by decide) (t_M_readsIt_59 (p_ran ds (by omega) (fun u fu du => ifn (by decide) (ifn (by decide) (ifn (by decide) (by rw [du.2.1]; exact q u fu du))))))))))
  | 4, _, _, ds, q => exact ifn (by decide) (ifp rfl (ifn (by decide) (p_ran ds (by omega) (fun τ f dt => t_M_readsIt_59 (p_ran dt (hl1 _) (fun u fu du => ifn (by decide) (ifp rfl (by rw [du.2.1]; rw [app2] at du; exact q u (f.tr fu) du))))))))
  | 5, _, _, ds, q => exact ifn (by decide) (ifn (by decide) (ifp rfl (ifn (by decide) (p_ran ds (by omega) (fun τ f dt => t_M_readsIt_59 (p_ran dt (hl1 _) (fun u fu du => ifn (by decide) (ifn (by decide) (ifp rfl (by rw [du.2.1]; rw [app2] at du; exact q u (f.tr fu) du))))))))))
  | 6, _, _, ds, q => exact ifn (by decide) (ifn (by decide) (ifn (by decide) (ifp rfl (ifn (by decide) (p_ran ds (by omega) (fun τ f dt => t_M_readsIt_59 (p_ran dt (hl1 _) (fun u fu du => ifn (by decide) (ifn (by decide) (ifp rfl (by rw [du.2.1]; rw [app2] at du; exact q u (f.tr fu) du)))))))))))
theorem m_tsteps {d : Nat} {K : Po} {σ : Hp} {k : Nat} {nu L p x : Int32} {l : List Int32} (h1 : 1 ≤ k) (h6 : k ≤ 6) (ds : MoS (nI k) nu L l p σ) (hl : l.length < 15) (q : ∀ τ : Hp, FrE σ τ → MoS (nI k) nu L (l ++ [11] ++ rdL k) p τ → K (some (.int (rdV k nu x * 2))) τ) : CTs (d + 3) y_M_thingSteps [.ref 98, .int x] σ K :=
  e_M_thingSteps (t_M_thingSteps_0 (p_ran ds (by omega) (fun τ f dt => m_reads h1 h6 dt (by rw [List.length_append]; show l.length + 1 < 20; omega) (fun u fu du => q u (f.tr fu) du))))
theorem subz {L nu : Int32} : L - nu = 0 ↔ L = nu := ⟨fun e => by
  have := congrArg (fun z => z + nu) e
  simpa using this, fun e => by rw [e, Int32.sub_self]⟩
theorem m_tunits {d : Nat} {K : Po} {σ : Hp} {kd nu L x : Int32} {l : List Int32} (ds : MoS kd nu L l 0 σ) (hl : l.length < 30) (q : ∀ (v : Int32) (τ : Hp), FrE σ τ → MoS kd nu L (l ++ [12]) (pz nu L) τ → (¬ L = nu → v = x / (L - nu)) → K (some (.int v)) τ) : CTs (d + 2) y_M_thingUnits [.ref 98, .int x] σ K := by
  refine e_M_thingUnits (t_M_thingUnits_0 (p_ran ds hl (fun τ f dt => ?_)))
  rw [dt.2.1, dt.2.2.1]
  refine ite2 (fun e => ⟨vb1, q 0 _ (f.tr ⟨rfl, fun c h1 _ => by rw [sI_r, if_neg h1], fun x _ h2 => by rw [sI_r, if_pos rfl, upd_r, if_neg h2]⟩) ?_ (fun z => absurd e z)⟩) (fun e => ⟨fun z => e (subz.mp z), q _ τ f ?_ (fun _ => rfl)⟩)
  · obtain ⟨d0, d1, d2, d3, d4, dr⟩ := dt
    unfold pz
    rw [if_pos e]
    exact ⟨by rw [sI_r, if_pos rfl, upd_r, if_neg (by decide)]; exact d0, by rw [sI_r, if_pos rfl, upd_r, if_neg (by decide)]; exact d1, by rw [sI_r, if_pos rfl, upd_r, if_neg (by decide)]; exact d2, by rw [sI_r, if_pos rfl, pk_us], by rw [sI_r, if_pos rfl, upd_r, if_neg (by decide)]; exact d4, fun j hj => by rw [sI_r, if_neg (by decide)]; exact dr j hj⟩
  · unfold pz
    rw [if_neg e]
    exact dt
theorem m_units {d : Nat} {K : Po} {σ : Hp} {k : Nat} {nu L x : Int32} {l : List Int32} (h1 : 1 ≤ k) (h6 : k ≤ 6) (ds : MoS (nI k) nu L l 0 σ) (hl : l.length < 15) (q : ∀ (v : Int32) (τ : Hp), FrE σ τ → MoS (nI k) nu L (l ++ utL k nu L) (pz nu L) τ → (¬ L = nu → v = utV k nu L x) → K (some (.int v)) τ) : CTs (d + 3) y_M_unitsIt [.ref 98, .int x] σ K := by
  have hl1 : ∀ b : Int32, (l ++ [b]).length < 30 := fun b => by rw [List.length_append]; show l.length + 1 < 30; omega
  have hl2 : ∀ b c : Int32, (l ++ [b] ++ [c]).length < 30 := fun b c => by rw [List.length_append, List.length_append]; show l.length + 1 + 1 < 30; omega
  refine e_M_unitsIt (t_M_unitsIt_0 ?_)
  rw [ds.1]
  match k, h1, h6, ds, q with
  | 1, _, _, ds, q => exact ifn (by decide) (ifn (by decide) (m_tunits ds (by omega) (fun v u fu du hv => q v u fu du hv)))
  | 2, _, _, ds, q => exact ifn (by decide) (ifn (by decide) (m_tunits ds (by omega) (fun v u fu du hv => q v u fu du hv)))
  | 3, _, _, ds, q => exact ifp rfl (p_ran ds (by omega) (fun τ f dt => m_tunits dt (hl1 _) (fun v u fu du hv => q _ u (f.tr fu) (by rw [app2] at du; exact du) (fun hne => by rw [show oI (some (.int v)) = v from rfl, hv hne]; rfl))))
  | 4, _, _, ds, q =>
    refine ifn (by decide) (ifp rfl (p_ran ds (by omega) (fun τ f dt => p_ran dt (hl1 _) (fun τ2 f2 dt2 => m_tunits dt2 (hl2 _ _) (fun v u fu du hv => ?_)))))
    have e3 : l ++ [51] ++ [40] ++ [12] = l ++ [51, 40, 12] := by rw [app2, List.append_assoc]; rfl
    rw [e3] at du
    rw [du.2.2.2.1, du.2.1]
    unfold pz at du q
    unfold utL at q
    by_cases e : L = nu
    · rw [if_pos e] at du q
      rw [if_neg (by decide), if_pos rfl, if_pos e] at q
      unfold pz
      rw [if_pos e]
      exact ifn (by decide) (q _ u ((f.tr f2).tr fu) du (fun z => absurd e z))
    · rw [if_neg e] at du q
      rw [if_neg (by decide), if_pos rfl, if_neg e] at q
      unfold pz
      rw [if_neg e]
      refine ifp rfl (m_reads (k := 4) (by omega) (by omega) du (by rw [List.length_append]; show l.length + 3 < 20; omega) (fun y fy dy => q _ y (((f.tr f2).tr fu).tr fy) (by rw [List.append_assoc] at dy; exact dy) (fun hne => by rw [show oI (some (.int v)) = v from rfl, hv hne]; rfl)))
  | 5, _, _, ds, q => exact ifn (by decide) (ifn (by decide) (m_tunits ds (by omega) (fun v u fu du hv => q v u fu du hv)))
  | 6, _, _, ds, q => exact ifn (by decide) (ifn (by decide) (m_tunits ds (by omega) (fun v u fu du hv => q v u fu du hv)))
theorem pz0 {nu L : Int32} (h : pz nu L = 0) : ¬ L = nu := fun e => by
  unfold pz at h
  rw [if_pos e] at h
  exact absurd h (by decide)
theorem m_steps {d : Nat} {K : Po} {σ : Hp} {k : Nat} {nu L x : Int32} {l : List Int32} (h1 : 1 ≤ k) (h6 : k ≤ 6) (ds : MoS (nI k) nu L l 0 σ) (hl : l.length < 8) (q : ∀ (v : Int32) (τ : Hp), FrE σ τ → MoS (nI k) nu L (l ++ stL k nu L) (stP k nu L) τ → (stP k nu L = 0 → v = stV k nu L x) → K (some (.int v)) τ) : CTs (d + 4) y_M_stepsIt [.ref 98, .int x] σ K := by
  have hl1 : ∀ b : Int32, (l ++ [b]).length < 15 := fun b => by rw [List.length_append]; show l.length + 1 < 15; omega
  have st : ∀ k : Nat, 1 ≤ k → k ≤ 2 → MoS (nI k) nu L l 0 σ → (∀ (v : Int32) (τ : Hp), FrE σ τ → MoS (nI k) nu L (l ++ stL k nu L) (stP k nu L) τ → (stP k nu L = 0 → v = stV k nu L x) → K (some (.int v)) τ) → CTs (d + 3) y_M_ran [.ref 98, .int 20] σ (fun _ σ1 => CTs (d + 3) y_M_thingSteps [.ref 98, .int x] σ1 (fun r2 σ2 => K (some (.int ((oI r2) - (σ2.1 98 52)))) σ2)) := fun k k1 k2 ds q => by
    refine p_ran ds (by omega) (fun τ f dt => m_tsteps (by omega) (by omega) dt (hl1 _) (fun u fu du => ?_))
    rw [du.2.2.1]
    refine q _ u (f.tr fu) ?_ (fun _ => ?_)
    · unfold stL stP
      rw [if_pos (by omega), if_neg (by omega)]
      rw [app2, app3] at du; exact du
    · unfold stV; rw [if_pos (by omega)]; rfl
  have pl : ∀ k : Nat, 3 ≤ k → k ≤ 5 → MoS (nI k) nu L l 0 σ → (∀ (v : Int32) (τ : Hp), FrE σ τ → MoS (nI k) nu L (l ++ stL k nu L) (stP k nu L) τ → (stP k nu L = 0 → v = stV k nu L x) → K (some (.int v)) τ) → CTs (d + 3) y_M_thingSteps [.ref 98, .int x] σ (fun r3 σ3 => K (some (.int (oI r3))) σ3) := fun k k1 k2 ds q => by
    refine m_tsteps (by omega) (by omega) ds (by omega) (fun u fu du => q _ u fu ?_ (fun _ => ?_))
    · unfold stL stP
      rw [if_neg (by omega), if_neg (by omega), if_neg (by omega)]
      rw [app3] at du; exact du
    · unfold stV; rw [if_neg (by omega), if_neg (by omega)]; rfl
  refine e_M_stepsIt (t_M_stepsIt_0 ?_)
  rw [ds.1]
  match k, h1, h6, ds, q with
  | 1, _, _, ds, q => exact ifp rfl (st 1 (by omega) (by omega) ds q)
  | 2, _, _, ds, q => exact ifn (by decide) (ifp rfl (st 2 (by omega) (by omega) ds q))
  | 3, _, _, ds, q => exact ifn (by decide) (ifn (by decide) (ifn (by decide) (pl 3 (by omega) (by omega) ds q)))
  | 4, _, _, ds, q => exact ifn (by decide) (ifn (by decide) (ifn (by decide) (pl 4 (by omega) (by omega) ds q)))
  | 5, _, _, ds, q => exact ifn (by decide) (ifn (by decide) (ifn (by decide) (pl 5 (by omega) (by omega) ds q)))
  | 6, _, _, ds, q =>
    refine ifn (by decide) (ifn (by decide) (ifp rfl (p_ran ds (by omega) (fun τ f dt => m_tsteps (k := 6) (by omega) (by omega) dt (hl1 _) (fun u fu du => ?_)))))
    rw [du.2.2.1]
    refine m_units (k := 6) (by omega) (by omega) du (by rw [List.length_append, List.length_append, List.length_append]; have := rdL_len 6; show l.length + 1 + 1 + _ < 15; omega) (fun v y fy dy hv => q _ y ((f.tr fu).tr fy) ?_ (fun hp => ?_))
    · rw [app2, app3, app3] at dy
      exact dy
    · rw [show oI (some (.int v)) = v from rfl, hv (pz0 hp)]; rfl
theorem m_ttells {d : Nat} {K : Po} {σ : Hp} {k : Nat} {nu L x : Int32} {l : List Int32} (h1 : 1 ≤ k) (h6 : k ≤ 6) (ds : MoS (nI k) nu L l 0 σ) (hl : l.length < 5) (q : ∀ (v : Int32) (τ : Hp), FrE σ τ → MoS (nI k) nu L (l ++ [13] ++ stL k nu L) (stP k nu L) τ → (stP k nu L = 0 → v = stV k nu L x ^^^ L) → K (some (.int v)) τ) : CTs (d + 5) y_M_thingTells [.ref 98, .int x] σ K := by
  refine e_M_thingTells (t_M_thingTells_0 (p_ran ds (by omega) (fun τ f dt => m_steps h1 h6 dt (by rw [List.length_append]; show l.length + 1 < 8; omega) (fun v u fu du hv => ?_))))
  rw [du.2.2.1]
  exact q _ u (f.tr fu) du (fun hp => by rw [show oI (some (.int v)) = v from rfl, hv hp])
theorem m_tells {d : Nat} {K : Po} {σ : Hp} {k : Nat} {nu L x : Int32} (h1 : 1 ≤ k) (h6 : k ≤ 6) (ds : MoS (nI k) nu L [] 0 σ) (q : ∀ (v : Int32) (τ : Hp), FrE σ τ → MoS (nI k) nu L (tlL k nu L) (tlP k nu L) τ → (tlP k nu L = 0 → v = tlV k nu L x) → K (some (.int v)) τ) : CTs (d + 6) y_M_tellsIt [.ref 98, .int x] σ K := by
  have pl : ∀ k : Nat, 1 ≤ k → k ≤ 6 → k ≠ 2 → k ≠ 6 → MoS (nI k) nu L [] 0 σ → (∀ (v : Int32) (τ : Hp), FrE σ τ → MoS (nI k) nu L (tlL k nu L) (tlP k nu L) τ → (tlP k nu L = 0 → v = tlV k nu L x) → K (some (.int v)) τ) → CTs (d + 5) y_M_thingTells [.ref 98, .int x] σ (fun r1 σ1 => K (some (.int (oI r1))) σ1) := fun k k1 k2 n2 n6 ds q => by
    refine m_ttells k1 k2 ds (by decide) (fun v u fu du hv => q v u fu ?_ (fun hp => ?_))
    · unfold tlL tlP
      rw [if_neg n2, if_neg n6, if_neg (by omega)]
      unfold stP at du
      rw [if_neg n6] at du
      exact du
    · unfold tlV
      rw [if_neg n2, if_neg n6]
      exact hv (by unfold stP; rw [if_neg n6])
  refine e_M_tellsIt (t_M_tellsIt_0 ?_)
  rw [ds.1]
  match k, h1, h6, ds, q with
  | 1, _, _, ds, q => exact ifn (by decide) (ifn (by decide) (pl 1 (by omega) (by omega) (by omega) (by omega) ds q))
  | 2, _, _, ds, q =>
    refine ifp rfl (p_ran ds (by decide) (fun τ f dt => m_ttells (k := 2) (by omega) (by omega) dt (by decide) (fun v u fu du hv => ?_)))
    rw [du.2.1]
    refine m_units (k := 2) (by omega) (by omega) du (by rw [List.length_append, List.length_append]; have := stL_len 2 nu L; show 1 + 1 + _ < 15; omega) (fun w y fy dy hw => q _ y ((f.tr fu).tr fy) dy (fun hp => ?_))
    rw [show oI (some (.int v)) = v from rfl, show oI (some (.int w)) = w from rfl, hv rfl, hw (pz0 hp)]; rfl
  | 3, _, _, ds, q => exact ifn (by decide) (ifn (by decide) (pl 3 (by omega) (by omega) (by omega) (by omega) ds q))
  | 4, _, _, ds, q => exact ifn (by decide) (ifn (by decide) (pl 4 (by omega) (by omega) (by omega) (by omega) ds q))
  | 5, _, _, ds, q => exact ifn (by decide) (ifn (by decide) (pl 5 (by omega) (by omega) (by omega) (by omega) ds q))
  | 6, _, _, ds, q => exact ifn (by decide) (ifp rfl (p_ran ds (by decide) (fun τ f dt => m_ttells (k := 6) (by omega) (by omega) dt (by decide) (fun v u fu du hv => q _ u (f.tr fu) du (fun hp => by rw [show oI (some (.int v)) = v from rfl, hv hp]; rfl)))))
/-! ===== act ===== -/
theorem p_letters {d : Nat} {K : Po} {σ : Hp} {i L nm : Nat} (hi : i < 16) (hL1 : 1 ≤ L) (hL5 : L ≤ 5) (h1 : 27 ^ (L - 1) ≤ nm) (h2 : nm < 27 ^ L) (hnm : σ.1 5 i = nI nm) (q : K (some (.int (nI L))) σ) : CTs (d + 1) y_Tx_lettersOf [.ref 3, .int (nI i)] σ K := by
  have h5 : nm < 27 ^ 5 := Nat.lt_of_lt_of_le h2 (Nat.pow_le_pow_right (by omega) hL5)
  have h531 : (27 : Nat) ^ 5 < 2 ^ 31 := by decide
  refine e_Tx_lettersOf rfl (t_Tx_lettersOf_0 rfl ⟨vp_in_nI (by omega) (by omega), ?_⟩)
  rw [nI_clamp (n := i) (by omega), show σ.1 (3 + 2) i = nI nm from hnm]
  have key : ∀ c j, j + c = L → WP c_Tx_lettersOf (CTs d) K (9, [(2, .int (nI j)), (3, .int (nI (nm / 27 ^ j)))], []) σ := by
    intro c
    induction c with
    | zero =>
      intro j hj
      have ej : j = L := by omega
      rw [ej, Nat.div_eq_of_lt h2]
      exact t_Tx_lettersOf_9 (t := 3) rfl (ifp (by decide) q)
    | succ c ih =>
      intro j hj
      have hle : 27 ^ j ≤ nm := Nat.le_trans (Nat.pow_le_pow_right (by omega) (by omega)) h1
      have hp : 0 < nm / 27 ^ j := Nat.div_pos hle (Nat.pow_pos (by omega))
      have hlt : nm / 27 ^ j < 2 ^ 31 := Nat.lt_of_le_of_lt (Nat.div_le_self _ _) (by omega)
      refine t_Tx_lettersOf_9 (t := 3) rfl ?_
      have e1 : nI (nm / 27 ^ j) / 27 = nI (nm / 27 ^ (j + 1)) := by
        have := pk_div (a := nm / 27 ^ j) (d := 27) hlt (by omega) (by omega)
        rw [Nat.div_div_eq_div_mul, ← Nat.pow_succ] at this
        exact this
      rw [e1, nI_1]
      exact ifn (nI_nle hp hlt) (ifn (nI_ge (b := 5) (by omega) (by omega)) ⟨by decide, ih (j + 1) (by omega)⟩)
  have := key L 0 (by omega)
  rw [Nat.pow_zero, Nat.div_one] at this
  exact this
set_option maxHeartbeats 2000000 in
theorem op_act : O_act Rel := by
  intro σ a1 a2 a3 h
  obtain ⟨⟨n, now, ne, hc⟩, hr, hkp⟩ := id h
  obtain ⟨a, b, c, ⟨tw, cx, mw, cw, ps, h60⟩, wl⟩ := id hc
  have h16 := tw.1
  have hsh := hr.2.2.2.2.1
  have hn3 : σ.1 3 0 = nI n := cx.1
  refine e_SS_act (t_SS_act_0 (e_Do_clear (t_Do_clear_0 ⟨vb0, ?_⟩)))
  generalize hC : sI (sI σ 88 2 (0 : Int32)) 88 3 (0 : Int32) = C
  have C1 : ∀ c, c ≠ 88 → C.1 c = σ.1 c := fun c hc => by rw [← hC, sI_r, if_neg hc, sI_r, if_neg hc]
  have C2 : C.2 = σ.2 := by rw [← hC]; rfl
  have C88 : C.1 88 2 = 0 ∧ C.1 88 3 = 0 := by
    rw [← hC]
    exact ⟨by rw [sI_r, if_pos rfl, upd_r, if_neg (by decide), sI_r, if_pos rfl, pk_us], by rw [sI_r, if_pos rfl, pk_us]⟩
  have relE : ∀ (u : Hp) (l : List Int32), u.2 = σ.2 → (∀ c, c ≠ 88 → c ≠ 89 → c ≠ 98 → c ≠ 125 → u.1 c = σ.1 c) → (∀ x, x ≠ 50 → x ≠ 51 → x ≠ 52 → x ≠ 54 → x ≠ 55 → u.1 98 x = σ.1 98 x) → l.length ≤ 30 → u.1 88 3 = nI l.length → u.1 98 54 = nI l.length → (∀ j, j < l.length → u.1 89 j = u.1 125 j) → Rel u := by
    intro u l u2 u1 u98 hl e1 e2 er
    have A : ∀ c, c ≠ 88 ∧ c ≠ 89 ∧ c ≠ 98 ∧ c ≠ 125 → u.1 c = σ.1 c := fun c h => u1 c h.1 h.2.1 h.2.2.1 h.2.2.2
    have B : ∀ x, x ≠ 50 ∧ x ≠ 51 ∧ x ≠ 52 ∧ x ≠ 54 ∧ x ≠ 55 → u.1 98 x = σ.1 98 x := fun x h => u98 x h.1 h.2.1 h.2.2.1 h.2.2.2.1 h.2.2.2.2
    refine ⟨⟨n, now, ne, hc.same (SameG.of (fun c hc => A c ((by decide : ∀ c ∈ ([99, 100, 105, 106, 107, 108, 4, 5, 6, 7, 8, 9, 10, 11, 12, 13, 14, 15, 46, 47, 48, 49, 50, 51, 52, 53, 78] : List Nat), c ≠ 88 ∧ c ≠ 89 ∧ c ≠ 98 ∧ c ≠ 125) c hc)) (fun q hq => ?_) u2)⟩, ?_, hkp.same (SameG.of (fun c hc => A c ((by decide : ∀ c ∈ ([126, 80, 32, 33, 34, 35, 36, 37, 38, 39, 40, 41, 42, 43, 68, 69, 70, 71, 72, 73, 74, 75] : List Nat), c ≠ 88 ∧ c ≠ 89 ∧ c ≠ 98 ∧ c ≠ 125) c hc)) (fun q hq => ?_) u2)⟩
    · rcases (by decide : ∀ q ∈ ([(98, 0), (98, 19), (98, 25), (3, 0), (3, 1), (45, 0), (45, 4)] : List (Nat × Nat)), (q.1 = 98 ∧ q.2 ≠ 50 ∧ q.2 ≠ 51 ∧ q.2 ≠ 52 ∧ q.2 ≠ 54 ∧ q.2 ≠ 55) ∨ (q.1 ≠ 88 ∧ q.1 ≠ 89 ∧ q.1 ≠ 98 ∧ q.1 ≠ 125)) q hq with ⟨e1, e2⟩ | e
      · rw [e1]; exact B q.2 e2
      · rw [A q.1 e]
    · obtain ⟨g1, g2, g3, g4, g5, g6⟩ := hr
      refine ⟨?_, ?_, ?_, ?_, ?_, ⟨l.length, hl, e1, e2, er⟩⟩
      · rw [A 1 (by decide), B 4 (by decide), A 2 (by decide), A 101 (by decide)]; exact g1
      · rw [A 1 (by decide), B 10 (by decide), B 11 (by decide)]; exact g2
      · rw [A 0 (by decide), B 43 (by decide), A 81 (by decide), A 118 (by decide)]; exact g3
      · rw [A 82 (by decide), A 83 (by decide), A 84 (by decide), A 119 (by decide), A 120 (by decide), u2]; exact g4
      · rw [A 85 (by decide), A 86 (by decide), A 87 (by decide), A 122 (by decide), A 123 (by decide), A 124 (by decide)]; exact g5
    · rcases (by decide : ∀ q ∈ ([(0, 6), (98, 56), (31, 0), (31, 1), (67, 0), (67, 4)] : List (Nat × Nat)), (q.1 = 98 ∧ q.2 ≠ 50 ∧ q.2 ≠ 51 ∧ q.2 ≠ 52 ∧ q.2 ≠ 54 ∧ q.2 ≠ 55) ∨ (q.1 ≠ 88 ∧ q.1 ≠ 89 ∧ q.1 ≠ 98 ∧ q.1 ≠ 125)) q hq with ⟨e1, e2⟩ | e
      · rw [e1]; exact B q.2 e2
      · rw [A q.1 e]
  have D98 : ∀ c, c ≠ 98 → (sI C 98 54 (0 : Int32)).1 c = C.1 c := fun c hc => by rw [sI_r, if_neg hc]
  have Dx : ∀ x, x ≠ 54 → (sI C 98 54 (0 : Int32)).1 98 x = σ.1 98 x := fun x hx => by rw [sI_r, if_pos rfl, upd_r, if_neg hx, C1 98 (by decide)]
  have rel0 : Rel (sI C 98 54 (0 : Int32)) := relE _ [] C2 (fun c h1 h2 h3 h4 => by rw [D98 c h3]; exact C1 c h1) (fun x _ _ _ h4 _ => Dx x h4) (by decide) (by rw [D98 88 (by decide)]; exact C88.2) (by rw [sI_r, if_pos rfl, pk_us]; rfl) (fun j hj => absurd hj (by show ¬ j < 0; omega))
  have m0 : σ.1 98 0 = nI n → (sI C 98 54 (0 : Int32)).1 98 0 = nI n := fun h => by rw [Dx 0 (by decide)]; exact h
  rcases ixc a1 (n := 4) (by omega) with z | ⟨s, hs, rfl⟩
  · exact p_sShelf0 z (o0 (ifp (by decide) (e_M_act (t_M_act_0 (p_mShelf0 z (o0 ⟨rfl, rel0⟩))))))
  refine p_sShelf1 hs (o1 ?_)
  have C85 : C.1 85 s = σ.1 85 s := by rw [C1 85 (by decide)]
  have C86 : C.1 86 s = σ.1 86 s := by rw [C1 86 (by decide)]
  have Cn3 : C.1 3 0 = nI n := by rw [C1 3 (by decide)]; exact hn3
  -- not a thing
  have nothing : (σ.1 85 s ≠ 1 ∨ nIx (σ.1 86 s) n) → (∀ K : Po, (∀ x : Int32, (x = -1 ∨ x = 9) → K (some (.int x)) (sI C 98 54 (0 : Int32))) → CTs 59 y_M_kindOn [.ref 98, .int (nI s)] (sI C 98 54 (0 : Int32)) K) → CTs 59 y_SS_thingOn [.ref 0, .int (nI s)] C (fun r8 σ8 => (if (oI r8) < 0 then (CTs 60 y_M_act [.ref 98, .int (nI s), .int a2, .int a3] σ8 (fun r' σ2 => oI (some (.int (0 : Int32))) = oI r' ∧ Rel σ2)) else True)) := by
    intro hno hko
    refine p_thingOn0 hs Cn3 (by rw [C85, C86]; exact hno) (ifp (by decide) (e_M_act (t_M_act_0 (p_mShelf1 hs (o1 ?_)))))
    rcases ixc a2 (n := 4) (by omega) with z | ⟨w, hw, rfl⟩
    · exact p_inN' (n := 4) rfl z (by omega) (o0 ⟨rfl, rel0⟩)
    · refine p_inJ' (n := 4) rfl hw (by omega) (o1 (hko _ (fun x hx => ?_)))
      rcases hx with hx | hx
      · subst hx; exact p_in0 (Or.inl (by decide)) (o0 ⟨rfl, rel0⟩)
      · subst hx; exact p_in0 (Or.inr (by decide)) (o0 ⟨rfl, rel0⟩)
  have D122 : (sI C 98 54 (0 : Int32)).1 122 s = σ.1 122 s := by rw [D98 122 (by decide), C1 122 (by decide)]
  have D123 : (sI C 98 54 (0 : Int32)).1 123 s = σ.1 123 s := by rw [D98 123 (by decide), C1 123 (by decide)]
  have cut : ∀ {A : Int32 → Hp → Prop} {B : Option Value → Hp → Prop}, CTs 59 y_SS_thingOn [.ref 0, .int (nI s)] C (fun r8 σ8 => (if (oI r8) < 0 then A (oI r8) σ8 else True)) → (∀ σ8, A (-1) σ8 → True) → True := fun _ _ => trivial
  have fin0 : ∀ (Y : Option Value → Hp → Prop), (σ.1 85 s ≠ 1 ∨ nIx (σ.1 86 s) n) → (∀ K : Po, (∀ x : Int32, (x = -1 ∨ x = 9) → K (some (.int x)) (sI C 98 54 (0 : Int32))) → CTs 59 y_M_kindOn [.ref 98, .int (nI s)] (sI C 98 54 (0 : Int32)) K) → CTs 59 y_SS_thingOn [.ref 0, .int (nI s)] C (fun r8 σ8 => (if (oI r8) < 0 then (CTs 60 y_M_act [.ref 98, .int (nI s), .int a2, .int a3] σ8 (fun r' σ2 => oI (some (.int (0 : Int32))) = oI r' ∧ Rel σ2)) else Y r8 σ8)) := by
    intro Y hno hko
    refine p_thingOn0 hs Cn3 (by rw [C85, C86]; exact hno) (ifp (by decide) (e_M_act (t_M_act_0 (p_mShelf1 hs (o1 ?_)))))
    rcases ixc a2 (n := 4) (by omega) with z | ⟨w, hw, rfl⟩
    · exact p_inN' (n := 4) rfl z (by omega) (o0 ⟨rfl, rel0⟩)
    · refine p_inJ' (n := 4) rfl hw (by omega) (o1 (hko _ (fun x hx => ?_)))
      rcases hx with hx | hx
      · subst hx; exact p_in0 (Or.inl (by decide)) (o0 ⟨rfl, rel0⟩)
      · subst hx; exact p_in0 (Or.inr (by decide)) (o0 ⟨rfl, rel0⟩)
  rcases hsh s hs with ⟨q1, q2⟩ | ⟨q1, q2, q3⟩ | ⟨q1, q2, q3, q4, k2, hk2, q5⟩
  · exact fin0 _ (Or.inl (by rw [q1]; decide)) (fun K hK => p_kindOnN hs (m0 a) h16 (Or.inl (D122.trans q2)) (hK _ (Or.inl rfl)))
  · rcases ixc (σ.1 86 s) (n := n) (by omega) with z | ⟨i, hi, hu⟩
    · exact fin0 _ (Or.inr z) (fun K hK => p_kindOnN hs (m0 a) h16 (Or.inr ⟨D122.trans q2, by rw [D123, ← q3]; exact z⟩) (hK _ (Or.inl rfl)))
    · obtain ⟨k, k1, k6, hkk⟩ := (tw.2 i hi).1
      obtain ⟨L, nm, L1, L5, n1, n2, eL, en⟩ := (tw.2 i hi).2.1
      have hvi : vp_in (nI i) 16 := vp_in_nI (by omega) (by omega)
      have hv4 : vp_in (nI s) 4 := vp_in_nI (by omega) (by omega)
      refine p_thingOn1 hs Cn3 h16 (C85.trans q1) hi (C86.trans hu) (ifn (nI_pos (by omega)) ?_)
      rcases ixc a2 (n := 4) (by omega) with z | ⟨w, hw, rfl⟩
      · have hm : CTs 60 y_M_act [.ref 98, .int (nI s), .int a2, .int a3] C (fun r' σ2 => oI (some (.int (0 : Int32))) = oI r' ∧ Rel σ2) := e_M_act (t_M_act_0 (p_mShelf1 hs (o1 (p_inN' (n := 4) rfl z (by omega) (o0 ⟨rfl, rel0⟩)))))
        refine ite2 (fun _ => hm) (fun h1 => ifn ?_ hm)
        rcases z with z | z
        · exact absurd z h1
        · intro y
          exact absurd (Int32.le_trans z y) (by decide)
      refine ifn (nI_pos (by omega)) (ifp (nI_le (b := 3) (by omega) (by omega)) ?_)
      have c5 : (sI C 88 0 (nI i)).1 5 i = nI nm := by rw [sI_r, if_neg (by decide), C1 5 (by decide)]; exact ((cx.2.1 i hi).2.1).trans en
      refine p_letters (i := i) (L := L) (nm := nm) (by omega) L1 L5 n1 n2 c5 ⟨hvi, ?_⟩
      have hcl : (oI (some (.int (nI i)))).toNatClampNeg = i := nI_clamp (by omega)
      have c4 : (sI C 88 0 (nI i)).1 4 i = nI k := by rw [sI_r, if_neg (by decide), C1 4 (by decide)]; exact (cx.k hi).trans hkk
      have c4' : (sI C 88 0 (oI (some (.int (nI i))))).1 4 i = nI k := c4
      rw [hcl, c4', nI_clamp (n := k) (by omega)]
      refine ⟨vp_in_nI (by omega) (by omega), ?_⟩
      have hb : (Nat.ble 91 (91 + k) && Nat.ble (91 + k) 97) = true := by
        rw [Bool.and_eq_true]
        exact ⟨Nat.ble_eq_true_of_le (by omega), Nat.ble_eq_true_of_le (by omega)⟩
      rw [hb]
      generalize hS : sI (sI C 88 0 (oI (some (.int (nI i))))) 88 1 (oI (some (.int (nI L)))) = S
      have S1 : ∀ c, c ≠ 88 → S.1 c = σ.1 c := fun c hc => by rw [← hS, sI_r, if_neg hc, sI_r, if_neg hc]; exact C1 c hc
      have S2 : S.2 = σ.2 := by rw [← hS]; exact C2
      have dS : DoS (nI i) (nI L) [] 0 S := by
        refine ⟨?_, ?_, ?_, ?_, fun j hj => absurd hj (by show ¬ j < 0; omega)⟩
        · rw [← hS, sI_r, if_pos rfl, upd_r, if_neg (by decide), sI_r, if_pos rfl, pk_us]; rfl
        · rw [← hS, sI_r, if_pos rfl, pk_us]; rfl
        · rw [← hS, sI_r, if_pos rfl, upd_r, if_neg (by decide), sI_r, if_pos rfl, upd_r, if_neg (by decide)]; exact C88.1
        · rw [← hS, sI_r, if_pos rfl, upd_r, if_neg (by decide), sI_r, if_pos rfl, upd_r, if_neg (by decide)]; exact C88.2
      -- the model's side, whatever the class answered
      have mgo : ∀ (τ : Hp) (l : List Int32) (p : Int32), FrD S τ → DoS (nI i) (nI L) l p τ → l.length ≤ 30 → ∀ (ans : Int32), (∀ (M : Hp) (K : Po), MoS (nI k) (nI i) (nI L) [] 0 M → (∀ (v : Int32) (u : Hp), FrE M u → MoS (nI k) (nI i) (nI L) l p u → (p = 0 → v = ans) → K (some (.int v)) u) → CTs 59 (if w = 0 then y_M_readsIt else if w = 1 then y_M_stepsIt else if w = 2 then y_M_unitsIt else y_M_tellsIt) [.ref 98, .int a3] M K) → ∀ (r : Int32), (p = 0 → r = ans) → (¬ p = 0 → r = -15) → CTs 60 y_M_act [.ref 98, .int (nI s), .int (nI w), .int a3] τ (fun r' σ2 => oI (some (.int r)) = oI r' ∧ Rel σ2) := by
        intro τ l p f dt hl ans run r r0 r1
        generalize hT : sI τ 98 54 (0 : Int32) = T
        have T1 : ∀ c, c ≠ 98 → T.1 c = τ.1 c := fun c hc => by rw [← hT, sI_r, if_neg hc]
        have Tx : ∀ x, x ≠ 54 → T.1 98 x = σ.1 98 x := fun x hx => by rw [← hT, sI_r, if_pos rfl, upd_r, if_neg hx, f.2 98 (by decide) (by decide), S1 98 (by decide)]
        have Ts : ∀ c, c ≠ 88 → c ≠ 89 → c ≠ 98 → T.1 c = σ.1 c := fun c h1 h2 h3 => by rw [T1 c h3, f.2 c h1 h2, S1 c h1]
        have T99 := Ts 99 (by decide) (by decide) (by decide)
        have kon : ∀ K : Po, K (some (.int (nI k))) T → CTs 59 y_M_kindOn [.ref 98, .int (nI s)] T K := fun K hK => p_kindOnT hs (by rw [Tx 0 (by decide)]; exact a) h16 (by rw [Ts 122 (by decide) (by decide) (by decide)]; exact q2) hi (by rw [Ts 123 (by decide) (by decide) (by decide), ← q3]; exact hu) (by rw [T99, hkk]; exact hK)
        refine e_M_act (t_M_act_0 ?_)
        rw [hT]
        refine p_mShelf1 hs (o1 (p_inJ' (n := 4) rfl hw (by omega) (o1 (kon _ (p_in1 (nI_nlt (b := 1) k1 (by omega)) (nI_nlt (a := 6) k6 (by omega)) (o1 (kon _ ⟨hv4, ?_⟩)))))))
        rw [nI_clamp (n := s) (by omega), show T.1 123 s = nI i by rw [Ts 123 (by decide) (by decide) (by decide), ← q3]; exact hu]
        have o99 : (sI (sI T 98 50 (oI (some (.int (nI k))))) 98 51 (nI i)).1 99 = σ.1 99 := by rw [sI_r, if_neg (by decide), sI_r, if_neg (by decide)]; exact T99
        refine p_of (w := 2) (by omega) (by omega) ⟨vb0, ?_⟩
        rw [o99, eL]
        generalize hU : sI (sI (sI (sI T 98 50 (oI (some (.int (nI k))))) 98 51 (nI i)) 98 52 (oI (some (.int (nI L))))) 98 55 (0 : Int32) = U
        have U1 : ∀ c, c ≠ 98 → U.1 c = T.1 c := fun c hc => by rw [← hU, sI_r, if_neg hc, sI_r, if_neg hc, sI_r, if_neg hc, sI_r, if_neg hc]
        have Ux : ∀ x, x ≠ 50 → x ≠ 51 → x ≠ 52 → x ≠ 55 → U.1 98 x = T.1 98 x := fun x h1 h2 h3 h4 => by rw [← hU, sI_r, if_pos rfl, upd_r, if_neg h4, sI_r, if_pos rfl, upd_r, if_neg h3, sI_r, if_pos rfl, upd_r, if_neg h2, sI_r, if_pos rfl, upd_r, if_neg h1]
        have dU : MoS (nI k) (nI i) (nI L) [] 0 U := by
          refine ⟨?_, ?_, ?_, ?_, ?_, fun j hj => absurd hj (by show ¬ j < 0; omega)⟩
          · rw [← hU, sI_r, if_pos rfl, upd_r, if_neg (by decide), sI_r, if_pos rfl, upd_r, if_neg (by decide), sI_r, if_pos rfl, upd_r, if_neg (by decide), sI_r, if_pos rfl, pk_us]; rfl
          · rw [← hU, sI_r, if_pos rfl, upd_r, if_neg (by decide), sI_r, if_pos rfl, upd_r, if_neg (by decide), sI_r, if_pos rfl, pk_us]
          · rw [← hU, sI_r, if_pos rfl, upd_r, if_neg (by decide), sI_r, if_pos rfl, pk_us]; rfl
          · rw [← hU, sI_r, if_pos rfl, pk_us]
          · rw [Ux 54 (by decide) (by decide) (by decide) (by decide), ← hT, sI_r, if_pos rfl, pk_us]; rfl
        have go := run U (fun rr y => (if (y.1 98 55) = 0 then (oI (some (.int r)) = oI (some (.int (oI rr))) ∧ Rel y) else (oI (some (.int r)) = oI (some (.int (-15 : Int32))) ∧ Rel y))) dU (fun v u fu du hv => by
          have ru : Rel u := relE u l (by rw [fu.1, ← hU]; show T.2 = σ.2; rw [← hT]; show τ.2 = σ.2; rw [f.1, S2]) (fun c h1 h2 h3 h4 => by rw [fu.2.1 c h3 h4, U1 c h3]; exact Ts c h1 h2 h3) (fun x h1 h2 h3 h4 h5 => by rw [fu.2.2 x h4 h5, Ux x h1 h2 h3 h5]; exact Tx x h4) hl (by rw [fu.2.1 88 (by decide) (by decide), U1 88 (by decide), T1 88 (by decide)]; exact dt.2.2.2.1) du.2.2.2.2.1 (fun j hj => by rw [fu.2.1 89 (by decide) (by decide), U1 89 (by decide), T1 89 (by decide), dt.2.2.2.2 j hj, du.2.2.2.2.2 j hj])
          rw [du.2.2.2.1]
          refine ite2 (fun e => ⟨?_, ru⟩) (fun e => ⟨r1 e, ru⟩)
          rw [hv e]; exact r0 e)
        match w, hw, go with
        | 0, _, go => exact ifp rfl go
        | 1, _, go => exact ifn (by decide) (ifp rfl go)
        | 2, _, go => exact ifn (by decide) (ifn (by decide) (ifp rfl go))
        | 3, _, go => exact ifn (by decide) (ifn (by decide) (ifn (by decide) go))
      -- the class's end
      have cgo : ∀ (ans : Int32) (l : List Int32) (p : Int32), l.length ≤ 30 → (∀ (M : Hp) (K : Po), MoS (nI k) (nI i) (nI L) [] 0 M → (∀ (v : Int32) (u : Hp), FrE M u → MoS (nI k) (nI i) (nI L) l p u → (p = 0 → v = ans) → K (some (.int v)) u) → CTs 59 (if w = 0 then y_M_readsIt else if w = 1 then y_M_stepsIt else if w = 2 then y_M_unitsIt else y_M_tellsIt) [.ref 98, .int a3] M K) → ∀ (v : Int32) (τ : Hp), FrD S τ → DoS (nI i) (nI L) l p τ → (p = 0 → v = ans) → (if (τ.1 88 2) = 0 then (CTs 60 y_M_act [.ref 98, .int (nI s), .int (nI w), .int a3] τ (fun r' σ2 => oI (some (.int v)) = oI r' ∧ Rel σ2)) else (CTs 60 y_M_act [.ref 98, .int (nI s), .int (nI w), .int a3] τ (fun r' σ2 => oI (some (.int (-15 : Int32))) = oI r' ∧ Rel σ2))) := by
        intro ans l p hl run v τ f dt hv
        rw [dt.2.2.1]
        refine ite2 (fun e => mgo τ l p f dt hl ans run v hv (fun z => absurd e z)) (fun e => mgo τ l p f dt hl ans run (-15) (fun z => absurd z e) (fun _ => rfl))
      match w, hw, cgo with
      | 0, _, cgo => exact ifp rfl (c_reads k1 k6 dS (by decide) (fun τ f dt => cgo (rdV k (nI i) a3) ([] ++ rdL k) 0 (by rw [List.nil_append]; have := rdL_len k; omega) (fun M K dM hK => m_reads k1 k6 dM (by decide) (fun u fu du => hK _ u fu du (fun _ => rfl))) _ τ f dt (fun _ => rfl)))
      | 1, _, cgo => exact ifn (by decide) (ifp rfl (c_steps k1 k6 dS (by decide) (fun v τ f dt hv => cgo (stV k (nI i) (nI L) a3) ([] ++ stL k (nI i) (nI L)) (stP k (nI i) (nI L)) (by rw [List.nil_append]; have := stL_len k (nI i) (nI L); omega) (fun M K dM hK => m_steps k1 k6 dM (by decide) (fun v u fu du hv => hK v u fu du hv)) v τ f dt hv)))
      | 2, _, cgo => exact ifn (by decide) (ifn (by decide) (ifp rfl (c_units k1 k6 dS (by decide) (fun v τ f dt hv => cgo (utV k (nI i) (nI L) a3) ([] ++ utL k (nI i) (nI L)) (pz (nI i) (nI L)) (by rw [List.nil_append]; unfold utL; split; decide; split; split; decide; decide; decide) (fun M K dM hK => m_units k1 k6 dM (by decide) (fun v u fu du hv => hK v u fu du (fun hp => hv (pz0 hp)))) v τ f dt (fun hp => hv (pz0 hp))))))
      | 3, _, cgo => exact ifn (by decide) (ifn (by decide) (ifn (by decide) (c_tells k1 k6 dS (fun v τ f dt hv => cgo (tlV k (nI i) (nI L) a3) (tlL k (nI i) (nI L)) (tlP k (nI i) (nI L)) (by
          have s2 := stL_len 2 (nI i) (nI L)
          have s6 := stL_len 6 (nI i) (nI L)
          have sk := stL_len k (nI i) (nI L)
          unfold tlL
          split
          · rw [List.length_append, List.length_append]; show 2 + _ + 1 ≤ 30; omega
          · split
            · rw [List.length_append]; show 2 + _ ≤ 30; omega
            · rw [List.length_append]; show 1 + _ ≤ 30; omega) (fun M K dM hK => m_tells k1 k6 dM (fun v u fu du hv => hK v u fu du hv)) v τ f dt hv))))
  · exact fin0 _ (Or.inl (by rw [q1]; decide)) (fun K hK => p_kindOnR hs (D122.trans q2) (hK _ (Or.inr rfl)))
